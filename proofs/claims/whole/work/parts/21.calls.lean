/-- the class's cell of set j, after chg changes -/
def cellOf (chg j : Nat) : Nat := if j = 0 then 25 else if j = 1 then 30 else if j < 10 then 43 + 5 * ((chg + 9 - j) % 8) else if j < 13 then 84 + 11 * (j - 10) else 89 + 11 * (j - 13)
def setC (o : Nat) : Prop := o = 25 ∨ o = 30 ∨ o = 35 ∨ (∃ j, j < 8 ∧ o = 43 + 5 * j) ∨ (∃ s, s < 3 ∧ (o = 84 + 11 * s ∨ o = 89 + 11 * s))
/-- the cells of the arrays of the class's sets -/
def inSet (c : Nat) : Prop := 25 ≤ c ∧ c < 116 ∧ c ≠ 42 ∧ c ≠ 83 ∧ c ≠ 94 ∧ c ≠ 105
theorem setC.in {o c : Nat} (h : setC o) (h1 : o + 1 ≤ c) (h2 : c ≤ o + 4) : inSet c := by
  unfold inSet
  rcases h with rfl | rfl | rfl | ⟨j, hj, rfl⟩ | ⟨s, hs, rfl | rfl⟩ <;> omega
theorem setC.dis {o o' : Nat} (h : setC o) (h' : setC o') (hne : o ≠ o') : o + 5 ≤ o' ∨ o' + 5 ≤ o := by
  rcases h with rfl | rfl | rfl | ⟨j, hj, rfl⟩ | ⟨s, hs, rfl | rfl⟩ <;> rcases h' with rfl | rfl | rfl | ⟨j', hj', rfl⟩ | ⟨s', hs', rfl | rfl⟩ <;> omega
theorem cellOf_set (chg : Nat) {j : Nat} (h : j < 16) : setC (cellOf chg j) := by
  unfold cellOf setC
  split
  · exact Or.inl rfl
  · split
    · exact Or.inr (Or.inl rfl)
    · split
      · exact Or.inr (Or.inr (Or.inr (Or.inl ⟨_, Nat.mod_lt _ (by omega), rfl⟩)))
      · split
        · exact Or.inr (Or.inr (Or.inr (Or.inr ⟨j - 10, by omega, Or.inl rfl⟩)))
        · exact Or.inr (Or.inr (Or.inr (Or.inr ⟨j - 13, by omega, Or.inr rfl⟩)))
theorem cellOf_35 (chg : Nat) {j : Nat} (h : j < 16) : cellOf chg j ≠ 35 := by
  unfold cellOf
  repeat' split
  all_goals omega
theorem cellOf_inj {chg i j : Nat} (hi : i < 16) (hj : j < 16) (hne : i ≠ j) : cellOf chg i ≠ cellOf chg j := by
  unfold cellOf
  repeat' split
  all_goals omega
def pgI (p : Nat) : Int32 := if p = 0 then -1 else zN p
def CV (M : sdM) (rdy off : Bool) (chg wts : Nat) (hld : Int32) (pg : Nat) (w : Flt) (bg : Nat → Bool) : Prop := M 1 0 = bI rdy ∧ M 0 10 = bI off ∧ M 0 7 = zN chg ∧ M 0 8 = zN wts ∧ M 0 9 = hld ∧ M 0 11 = pgI pg ∧ (M 42 0 = w.1 ∧ M 42 1 = w.2.1 ∧ M 42 2 = w.2.2.1 ∧ M 42 3 = w.2.2.2) ∧ ∀ s, s < 3 → M (83 + 11 * s) 0 = bI (bg s)
def CS (M : sdM) (chg : Nat) (F : Nat → ASet) : Prop := (∀ j, j < 16 → (2 ≤ j → j < 10 → j - 2 < chg) → RC M (cellOf chg j) (F j)) ∧ ∀ o, setC o → gOK M o
/-- the class's state -/
def CST (M : sdM) (S : Sch) (rdy off : Bool) (chg wts : Nat) (hld : Int32) (pg : Nat) (w : Flt) (bg : Nat → Bool) (F : Nat → ASet) : Prop := SCC M S ∧ CV M rdy off chg wts hld pg w bg ∧ CS M chg F
def MV (M : sdM) (rdy off : Bool) (chg wts : Nat) (hld : Int32) (pg : Nat) (w : Flt) (bg : Nat → Bool) : Prop := M 116 1 = bI rdy ∧ M 116 25 = bI off ∧ M 116 21 = zN chg ∧ M 116 20 = zN (min chg 8) ∧ M 116 24 = zN wts ∧ M 116 23 = hld ∧ M 116 26 = zN pg ∧ (M 116 27 = w.1 ∧ M 116 28 = w.2.1 ∧ M 116 29 = w.2.2.1 ∧ M 116 30 = w.2.2.2) ∧ ∀ s, s < 3 → M 133 s = bI (bg s)
def MS (M : sdM) (F : Nat → ASet) : Prop := ∀ j, j < 16 → RM M j (F j)
/-- the model's state -/
def MST (M : sdM) (S : Sch) (rdy off : Bool) (chg wts : Nat) (hld : Int32) (pg : Nat) (w : Flt) (bg : Nat → Bool) (F : Nat → ASet) : Prop := SCM M S ∧ MV M rdy off chg wts hld pg w bg ∧ MS M F
def okA (S : Sch) (A : ASet) : Prop := ∀ l, l < 4 → okL (A l) ∧ (A l).length ≤ 6 ∧ belowL (lvS S l) (A l) ∧ (nlS S ≤ l → A l = [])
def OKS (t : Nat) (S : Sch) (chg wts pg : Nat) (F : Nat → ASet) : Prop := okSch S ∧ chg ≤ t ∧ wts ≤ 1000 ∧ pg ≤ 1000 ∧ (∀ j, j < 16 → okA S (F j)) ∧ (0 < wts → 1 ≤ chg ∧ sameS (F 0) (F 2) = false)
theorem okA.S {S : Sch} {A : ASet} (h : okA S A) : okS A := fun l hl => (h l hl).1
theorem OKS.s {t : Nat} {S : Sch} {chg wts pg : Nat} {F : Nat → ASet} (h : OKS t S chg wts pg F) {j : Nat} (hj : j < 16) : okS (F j) := (h.2.2.2.2.1 j hj).S
theorem SCC.fr {M M' : sdM} {S : Sch} (h : SCC M S) (he : ∀ c, c < 25 → M' c = M c) : SCC M' S := by
  obtain ⟨h1, h2, h3, h4, h5⟩ := h
  refine ⟨by rw [he 1 (by omega)]; exact h1, fun l hl => by rw [he 2 (by omega)]; exact h2 l hl, fun i hi => ?_, by rw [he 1 (by omega)]; exact h4, fun r hr => ?_⟩
  · have := h3 i hi
    unfold leafC at this ⊢
    rw [he (5 + i) (by omega)]; exact this
  · have := h5 r hr
    unfold ruleC at this ⊢
    rw [he (21 + r) (by omega)]; exact this
theorem CV.fr {M M' : sdM} {rdy off : Bool} {chg wts : Nat} {hld : Int32} {pg : Nat} {w : Flt} {bg : Nat → Bool} (h : CV M rdy off chg wts hld pg w bg) (he : ∀ c, c < 25 ∨ c = 42 ∨ c = 83 ∨ c = 94 ∨ c = 105 → M' c = M c) : CV M' rdy off chg wts hld pg w bg := by
  obtain ⟨h1, h2, h3, h4, h5, h6, h7, h8⟩ := h
  unfold CV
  rw [he 0 (by omega), he 1 (by omega), he 42 (by omega)]
  refine ⟨h1, h2, h3, h4, h5, h6, h7, fun s hs => ?_⟩
  rw [he (83 + 11 * s) (by omega)]
  exact h8 s hs
theorem RC.fr {M M' : sdM} {o : Nat} {A : ASet} (h : RC M o A) (he : ∀ c, o + 1 ≤ c → c ≤ o + 4 → M' c = M c) : RC M' o A := by
  intro l hl
  obtain ⟨h1, h2⟩ := h l hl
  refine ⟨by rw [he _ (by omega) (by omega)]; exact h1, fun i r hr => ?_⟩
  obtain ⟨g1, g2, g3⟩ := h2 i r hr
  exact ⟨by rw [he _ (by omega) (by omega)]; exact g1, by rw [he _ (by omega) (by omega)]; exact g2, fun f hf => by rw [he _ (by omega) (by omega)]; exact g3 f hf⟩
theorem CS.fr {M M' : sdM} {chg : Nat} {F : Nat → ASet} (h : CS M chg F) (he : ∀ c, inSet c → M' c = M c) : CS M' chg F := by
  refine ⟨fun j hj hv => (h.1 j hj hv).fr (fun c h1 h2 => he c ((cellOf_set chg hj).in h1 h2)), fun o ho j hj => ?_⟩
  obtain ⟨b, hb, e⟩ := h.2 o ho j hj
  exact ⟨b, hb, by rw [he _ (ho.in (by omega) (by omega))]; exact e⟩
theorem CST.fr {M M' : sdM} {S : Sch} {rdy off : Bool} {chg wts : Nat} {hld : Int32} {pg : Nat} {w : Flt} {bg : Nat → Bool} {F : Nat → ASet} (h : CST M S rdy off chg wts hld pg w bg F) (he : ∀ c, c < 116 → M' c = M c) : CST M' S rdy off chg wts hld pg w bg F :=
  ⟨h.1.fr (fun c hc => he c (by omega)), h.2.1.fr (fun c hc => he c (by omega)), h.2.2.fr (fun c hc => he c hc.2.1)⟩
theorem SCM.fr {M M' : sdM} {S : Sch} (h : SCM M S) (he : ∀ c, 117 ≤ c → c ≤ 128 → M' c = M c) (e2 : M' 116 2 = M 116 2) (e10 : M' 116 10 = M 116 10) : SCM M' S := by
  obtain ⟨h1, h2, h3, h4, h5⟩ := h
  refine ⟨by rw [e2]; exact h1, fun l hl => by rw [he 117 (by omega) (by omega)]; exact h2 l hl, fun i hi => ?_, by rw [e10]; exact h4, fun r hr => ?_⟩
  · have := h3 i hi
    unfold leafM at this ⊢
    rw [he 118 (by omega) (by omega), he 119 (by omega) (by omega), he 120 (by omega) (by omega), he 121 (by omega) (by omega), he 122 (by omega) (by omega), he 123 (by omega) (by omega)]; exact this
  · have := h5 r hr
    unfold ruleM at this ⊢
    rw [he 124 (by omega) (by omega), he 125 (by omega) (by omega), he 126 (by omega) (by omega), he 127 (by omega) (by omega), he 128 (by omega) (by omega)]; exact this
theorem RM.fr {M M' : sdM} {s : Nat} {A : ASet} (h : RM M s A) (he : ∀ c, 129 ≤ c → c ≤ 132 → M' c = M c) : RM M' s A := by
  intro l hl
  obtain ⟨h1, h2⟩ := h l hl
  refine ⟨by rw [he _ (by omega) (by omega)]; exact h1, fun i r hr => ?_⟩
  obtain ⟨g1, g2, g3⟩ := h2 i r hr
  exact ⟨by rw [he _ (by omega) (by omega)]; exact g1, by rw [he _ (by omega) (by omega)]; exact g2, fun f hf hb => by rw [he _ (by omega) (by omega)]; exact g3 f hf hb⟩
theorem MST.fr {M M' : sdM} {S : Sch} {rdy off : Bool} {chg wts : Nat} {hld : Int32} {pg : Nat} {w : Flt} {bg : Nat → Bool} {F : Nat → ASet} (h : MST M S rdy off chg wts hld pg w bg F) (he : ∀ c, 116 ≤ c → c ≤ 133 → M' c = M c) : MST M' S rdy off chg wts hld pg w bg F := by
  refine ⟨h.1.fr (fun c h1 h2 => he c (by omega) (by omega)) (by rw [he 116 (by omega) (by omega)]) (by rw [he 116 (by omega) (by omega)]), ?_, fun j hj => (h.2.2 j hj).fr (fun c h1 h2 => he c (by omega) (by omega))⟩
  have := h.2.1
  unfold MV at this ⊢
  rw [he 116 (by omega) (by omega), he 133 (by omega) (by omega)]; exact this
/-- the model's state does not look at what was thrown or found -/
theorem MST.sl {M M' : sdM} {S : Sch} {rdy off : Bool} {chg wts : Nat} {hld : Int32} {pg : Nat} {w : Flt} {bg : Nat → Bool} {F : Nat → ASet} (h : MST M S rdy off chg wts hld pg w bg F) (he : ∀ c, 117 ≤ c → c ≤ 133 → M' c = M c) (h1 : ∀ j, 0 < j → j < 31 → M' 116 j = M 116 j) : MST M' S rdy off chg wts hld pg w bg F := by
  refine ⟨h.1.fr (fun c h1 h2 => he c (by omega) (by omega)) (h1 2 (by omega) (by omega)) (h1 10 (by omega) (by omega)), ?_, fun j hj => (h.2.2 j hj).fr (fun c h1 h2 => he c (by omega) (by omega))⟩
  have := h.2.1
  unfold MV at this ⊢
  rw [h1 1 (by omega) (by omega), h1 25 (by omega) (by omega), h1 21 (by omega) (by omega), h1 20 (by omega) (by omega), h1 24 (by omega) (by omega), h1 23 (by omega) (by omega), h1 26 (by omega) (by omega), h1 27 (by omega) (by omega), h1 28 (by omega) (by omega), h1 29 (by omega) (by omega), h1 30 (by omega) (by omega), he 133 (by omega) (by omega)]
  exact this
theorem MST.thr {M : sdM} {S : Sch} {rdy off : Bool} {chg wts : Nat} {hld : Int32} {pg : Nat} {w : Flt} {bg : Nat → Bool} {F : Nat → ASet} {x : Int32} (h : MST M S rdy off chg wts hld pg w bg F) : MST (sd_s M 116 0 x) S rdy off chg wts hld pg w bg F :=
  h.sl (fun c h1 h2 => sd_s_o (by omega)) (fun j h1 h2 => sd_s_ne (by omega))
/-- a set of the class is written -/
theorem CS.put {M M' : sdM} {chg j0 : Nat} {F : Nat → ASet} {A : ASet} (h : CS M chg F) (hj : j0 < 16) (ho : outS M M' (cellOf chg j0)) (hA : RC M' (cellOf chg j0) A) (hg : gOK M' (cellOf chg j0)) : CS M' chg (va_up F j0 A) := by
  have hs := cellOf_set chg hj
  refine ⟨fun j hj' hv => ?_, fun o hoo => ?_⟩
  · by_cases e : j = j0
    · subst e; rw [va_up_self]; exact hA
    · rw [va_up_ne _ _ e]
      exact ho.RC (hs.dis (cellOf_set chg hj') (cellOf_inj hj hj' (Ne.symm e))) (h.1 j hj' hv)
  · by_cases e : o = cellOf chg j0
    · subst e; exact hg
    · exact ho.gOK (hs.dis hoo (Ne.symm e)) (h.2 o hoo)
theorem outS.sc {M M' : sdM} {o : Nat} {S : Sch} (ho : outS M M' o) (hs : setC o) (h : SCC M S) : SCC M' S := h.fr (fun c hc => ho c (fun q => by have := hs.in q.1 q.2; have := this.1; omega))
theorem outS.cv {M M' : sdM} {o : Nat} {rdy off : Bool} {chg wts : Nat} {hld : Int32} {pg : Nat} {w : Flt} {bg : Nat → Bool} (ho : outS M M' o) (hs : setC o) (h : CV M rdy off chg wts hld pg w bg) : CV M' rdy off chg wts hld pg w bg := h.fr (fun c hc => ho c (fun q => by have := hs.in q.1 q.2; unfold inSet at this; omega))
theorem CST.put {M M' : sdM} {S : Sch} {rdy off : Bool} {chg wts : Nat} {hld : Int32} {pg : Nat} {w : Flt} {bg : Nat → Bool} {F : Nat → ASet} {j0 : Nat} {A : ASet} (h : CST M S rdy off chg wts hld pg w bg F) (hj : j0 < 16) (ho : outS M M' (cellOf chg j0)) (hA : RC M' (cellOf chg j0) A) (hg : gOK M' (cellOf chg j0)) : CST M' S rdy off chg wts hld pg w bg (va_up F j0 A) :=
  ⟨ho.sc (cellOf_set chg hj) h.1, ho.cv (cellOf_set chg hj) h.2.1, h.2.2.put hj ho hA hg⟩
/-- the outcome is written: nobody looks -/
theorem CST.out {M M' : sdM} {S : Sch} {rdy off : Bool} {chg wts : Nat} {hld : Int32} {pg : Nat} {w : Flt} {bg : Nat → Bool} {F : Nat → ASet} (h : CST M S rdy off chg wts hld pg w bg F) (ho : outS M M' 35) (hg : gOK M' 35) : CST M' S rdy off chg wts hld pg w bg F := by
  have hs : setC 35 := Or.inr (Or.inr (Or.inl rfl))
  refine ⟨ho.sc hs h.1, ho.cv hs h.2.1, ⟨fun j hj hv => ho.RC (hs.dis (cellOf_set chg hj) (Ne.symm (cellOf_35 chg hj))) (h.2.2.1 j hj hv), fun o hoo => ?_⟩⟩
  by_cases e : o = 35
  · subst e; exact hg
  · exact ho.gOK (hs.dis hoo (Ne.symm e)) (h.2.2.2 o hoo)
/-- a set of the model is written -/
theorem MST.put {M M' : sdM} {S : Sch} {rdy off : Bool} {chg wts : Nat} {hld : Int32} {pg : Nat} {w : Flt} {bg : Nat → Bool} {F : Nat → ASet} {j0 : Nat} {A : ASet} (h : MST M S rdy off chg wts hld pg w bg F) (hk : ∀ j, j < 16 → okS (F j)) (ho : FrS M M' j0) (hA : RM M' j0 A) : MST M' S rdy off chg wts hld pg w bg (va_up F j0 A) := by
  refine ⟨h.1.fr (fun c h1 h2 => ho.1 c (by omega)) (by rw [ho.1 116 (by omega)]) (by rw [ho.1 116 (by omega)]), ?_, fun j hj => ?_⟩
  · have := h.2.1
    unfold MV at this ⊢
    rw [ho.1 116 (by omega), ho.1 133 (by omega)]; exact this
  · by_cases e : j = j0
    · subst e; rw [va_up_self]; exact hA
    · rw [va_up_ne _ _ e]; exact ho.2 j _ (by omega) e (hk j hj) (h.2.2 j hj)
theorem MST.out {M M' : sdM} {S : Sch} {rdy off : Bool} {chg wts : Nat} {hld : Int32} {pg : Nat} {w : Flt} {bg : Nat → Bool} {F : Nat → ASet} (h : MST M S rdy off chg wts hld pg w bg F) (hk : ∀ j, j < 16 → okS (F j)) (ho : FrS M M' 16) : MST M' S rdy off chg wts hld pg w bg F := by
  refine ⟨h.1.fr (fun c h1 h2 => ho.1 c (by omega)) (by rw [ho.1 116 (by omega)]) (by rw [ho.1 116 (by omega)]), ?_, fun j hj => ho.2 j _ (by omega) (by omega) (hk j hj) (h.2.2 j hj)⟩
  have := h.2.1
  unfold MV at this ⊢
  rw [ho.1 116 (by omega), ho.1 133 (by omega)]; exact this
def ISE : String := "java/lang/IllegalStateException"
def IOB : String := "java/lang/IndexOutOfBoundsException"
def IAE : String := "java/lang/IllegalArgumentException"
def UOE : String := "java/lang/UnsupportedOperationException"
theorem i_nlt {a b : Int32} : ¬ a < b ↔ b ≤ a := by rw [Int32.lt_iff_toInt_lt, Int32.le_iff_toInt_le]; omega
theorem i_nle {a b : Int32} : ¬ a ≤ b ↔ b < a := by rw [Int32.lt_iff_toInt_lt, Int32.le_iff_toInt_le]; omega
def frC (M M' : sdM) : Prop := ∀ c, 116 ≤ c → c ≤ 133 → M' c = M c
def frM (M M' : sdM) : Prop := ∀ c, c < 116 ∨ 133 < c → M' c = M c
theorem frC.rf (M : sdM) : frC M M := fun _ _ _ => rfl
theorem frM.rf (M : sdM) : frM M M := fun _ _ => rfl
theorem frC.tr {M M' M'' : sdM} (h : frC M M') (h' : frC M' M'') : frC M M'' := fun c a b => (h' c a b).trans (h c a b)
theorem frM.tr {M M' M'' : sdM} (h : frM M M') (h' : frM M' M'') : frM M M'' := fun c a => (h' c a).trans (h c a)
theorem frC.s {M M' : sdM} {t i : Nat} {x : Int32} (h : frC M M') (ht : t < 116 ∨ 133 < t) : frC M (sd_s M' t i x) := fun c a b => by rw [sd_s_o (by omega)]; exact h c a b
theorem frM.s {M M' : sdM} {t i : Nat} {x : Int32} (h : frM M M') (ht : 116 ≤ t ∧ t ≤ 133) : frM M (sd_s M' t i x) := fun c a => by rw [sd_s_o (by omega)]; exact h c a
theorem outS.fc {M M' : sdM} {o : Nat} (h : outS M M' o) (hs : setC o) : frC M M' := fun c a b => h c (fun q => by have := (hs.in q.1 q.2).2.1; omega)
theorem FrS.fm {M M' : sdM} {s : Nat} (h : FrS M M' s) : frM M M' := fun c a => h.1 c (by omega)
def isSesB (a : Int32) : Bool := decide (0 ≤ a) && decide (a < 3)
def isLstB (S : Sch) (a : Int32) : Bool := decide (0 ≤ a) && decide (a < zN (nlS S))
def isLfB (S : Sch) (a b : Int32) : Bool := isLstB S a && (decide (0 ≤ b) && decide (b < zN (lvS S a.toNatClampNeg)))
theorem sesB {a : Int32} (h : isSesB a = true) : ∃ s, s < 3 ∧ a = zN s := by
  unfold isSesB at h
  rw [Bool.and_eq_true, decide_eq_true_eq, decide_eq_true_eq] at h
  obtain ⟨s, hs, rfl⟩ := zN_of (i_nlt.mpr h.1)
  exact ⟨s, (zN_lt hs (by omega)).mp h.2, rfl⟩
theorem lstB {S : Sch} (hk : okSch S) {a : Int32} (h : isLstB S a = true) : ∃ l, l < nlS S ∧ l < 4 ∧ a = zN l := by
  unfold isLstB at h
  rw [Bool.and_eq_true, decide_eq_true_eq, decide_eq_true_eq] at h
  obtain ⟨s, hs, rfl⟩ := zN_of (i_nlt.mpr h.1)
  have := hk.1.2
  have := (zN_lt hs (by omega)).mp h.2
  exact ⟨s, this, by omega, rfl⟩
theorem lfB {S : Sch} (hk : okSch S) {a b : Int32} (h : isLfB S a b = true) : ∃ l f, l < nlS S ∧ l < 4 ∧ f < lvS S l ∧ f < 4 ∧ a = zN l ∧ b = zN f := by
  unfold isLfB at h
  rw [Bool.and_eq_true, Bool.and_eq_true, decide_eq_true_eq, decide_eq_true_eq] at h
  obtain ⟨l, h1, h2, rfl⟩ := lstB hk h.1
  rw [zN_nat (by omega)] at h
  obtain ⟨f, hf, rfl⟩ := zN_of (i_nlt.mpr h.2.1)
  have h4 := hk.2.1 l
  have := (zN_lt hf (by omega)).mp h.2.2
  exact ⟨l, f, h1, h2, this, by omega, rfl, rfl⟩
theorem p_hasList {M : sdM} {S : Sch} {a : Int32} {Q : Int32 → sdM → Prop} (hS : SCC M S) (hq : Q (bI (isLstB S a)) M) : w_C_hasList M a Q := by
  unfold w_C_hasList
  rw [hS.1]
  refine ⟨fun h => ⟨Or.inl rfl, ?_⟩, fun h => ⟨fun g => ⟨Or.inl rfl, ?_⟩, fun g => ⟨Or.inr rfl, ?_⟩⟩⟩
  · have e : isLstB S a = false := by unfold isLstB; rw [decide_eq_false (fun q => i_nlt.mpr q h)]; rfl
    rw [e] at hq; exact hq
  · have e : isLstB S a = false := by unfold isLstB; rw [decide_eq_false (p := a < zN (nlS S)) (i_nlt.mpr g)]; simp
    rw [e] at hq; exact hq
  · have e : isLstB S a = true := by unfold isLstB; rw [decide_eq_true (i_nlt.mp h), decide_eq_true (i_nle.mp g)]; rfl
    rw [e] at hq; exact hq
theorem p_hasLeaf {M : sdM} {S : Sch} {a b : Int32} {Q : Int32 → sdM → Prop} (hS : SCC M S) (hk : okSch S) (hq : Q (bI (isLfB S a b)) M) : w_C_hasLeaf M a b Q := by
  refine p_hasList hS ⟨fun h => ⟨Or.inl rfl, ?_⟩, fun h => ?_⟩
  · have e : isLfB S a b = false := by unfold isLfB; rw [bI_0.mp h]; rfl
    rw [e] at hq; exact hq
  · have h1 := bI_1.mp h
    obtain ⟨l, hl, hl4, rfl⟩ := lstB hk h1
    have eq : isLfB S (zN l) b = (decide (0 ≤ b) && decide (b < zN (lvS S l))) := by unfold isLfB; rw [h1, zN_nat (by omega)]; rfl
    rw [zN_nat (by omega), hS.2.1 l hl4]
    refine ⟨fun g => ⟨Or.inl rfl, ?_⟩, fun g => ⟨(zN_in (by omega)).mpr hl4, fun g2 => ⟨Or.inl rfl, ?_⟩, fun g2 => ⟨Or.inr rfl, ?_⟩⟩⟩
    · have e : isLfB S (zN l) b = false := by rw [eq, decide_eq_false (fun q => i_nlt.mpr q g)]; rfl
      rw [e] at hq; exact hq
    · have e : isLfB S (zN l) b = false := by rw [eq, decide_eq_false (p := b < zN (lvS S l)) (i_nlt.mpr g2)]; simp
      rw [e] at hq; exact hq
    · have e : isLfB S (zN l) b = true := by rw [eq, decide_eq_true (i_nlt.mp g), decide_eq_true (i_nle.mp g2)]; rfl
      rw [e] at hq; exact hq
theorem m_isList {M : sdM} {S : Sch} {a : Int32} {Q : Int32 → sdM → Prop} (hS : SCM M S) (hq : Q (bI (isLstB S a)) M) : w_O_isList M a Q := by
  unfold w_O_isList
  rw [hS.1]
  refine ⟨fun h => ⟨Or.inl rfl, ?_⟩, fun h => ⟨fun g => ⟨Or.inl rfl, ?_⟩, fun g => ⟨Or.inr rfl, ?_⟩⟩⟩
  · have e : isLstB S a = false := by unfold isLstB; rw [decide_eq_false (fun q => i_nlt.mpr q h)]; rfl
    rw [e] at hq; exact hq
  · have e : isLstB S a = false := by unfold isLstB; rw [decide_eq_false (p := a < zN (nlS S)) (i_nlt.mpr g)]; simp
    rw [e] at hq; exact hq
  · have e : isLstB S a = true := by unfold isLstB; rw [decide_eq_true (i_nlt.mp h), decide_eq_true (i_nle.mp g)]; rfl
    rw [e] at hq; exact hq
theorem m_isLeaf {M : sdM} {S : Sch} {a b : Int32} {Q : Int32 → sdM → Prop} (hS : SCM M S) (hk : okSch S) (hq : Q (bI (isLfB S a b)) M) : w_O_isLeaf M a b Q := by
  refine m_isList hS ⟨fun h => ⟨Or.inl rfl, ?_⟩, fun h => ?_⟩
  · have e : isLfB S a b = false := by unfold isLfB; rw [bI_0.mp h]; rfl
    rw [e] at hq; exact hq
  · have h1 := bI_1.mp h
    obtain ⟨l, hl, hl4, rfl⟩ := lstB hk h1
    have eq : isLfB S (zN l) b = (decide (0 ≤ b) && decide (b < zN (lvS S l))) := by unfold isLfB; rw [h1, zN_nat (by omega)]; rfl
    rw [zN_nat (by omega), hS.2.1 l hl4]
    refine ⟨fun g => ⟨Or.inl rfl, ?_⟩, fun g => ⟨(zN_in (by omega)).mpr hl4, fun g2 => ⟨Or.inl rfl, ?_⟩, fun g2 => ⟨Or.inr rfl, ?_⟩⟩⟩
    · have e : isLfB S (zN l) b = false := by rw [eq, decide_eq_false (fun q => i_nlt.mpr q g)]; rfl
      rw [e] at hq; exact hq
    · have e : isLfB S (zN l) b = false := by rw [eq, decide_eq_false (p := b < zN (lvS S l)) (i_nlt.mpr g2)]; simp
      rw [e] at hq; exact hq
    · have e : isLfB S (zN l) b = true := by rw [eq, decide_eq_true (i_nlt.mp g), decide_eq_true (i_nle.mp g2)]; rfl
      rw [e] at hq; exact hq
theorem m_isSession {M : sdM} {a : Int32} {Q : Int32 → sdM → Prop} (hq : Q (bI (isSesB a)) M) : w_O_isSession M a Q := by
  refine ⟨fun h => ⟨Or.inl rfl, ?_⟩, fun h => ⟨fun g => ⟨Or.inl rfl, ?_⟩, fun g => ⟨Or.inr rfl, ?_⟩⟩⟩
  · have e : isSesB a = false := by unfold isSesB; rw [decide_eq_false (fun q => i_nlt.mpr q h)]; rfl
    rw [e] at hq; exact hq
  · have e : isSesB a = false := by unfold isSesB; rw [decide_eq_false (p := a < 3) (i_nlt.mpr g)]; simp
    rw [e] at hq; exact hq
  · have e : isSesB a = true := by unfold isSesB; rw [decide_eq_true (i_nlt.mp h), decide_eq_true (i_nle.mp g)]; rfl
    rw [e] at hq; exact hq
theorem p_sess {M : sdM} {a : Int32} {Q : sdM → Prop} {X : String → sdM → Prop} (hX : isSesB a = false → X IOB M) (hq : isSesB a = true → Q M) : w_D_requireSession M a Q X := by
  refine ⟨fun h => hX ?_, fun h => ⟨fun g => hq ?_, fun g => hX ?_⟩⟩
  · unfold isSesB; rw [decide_eq_false (fun q => i_nlt.mpr q h)]; rfl
  · unfold isSesB; rw [decide_eq_true (i_nlt.mp h), decide_eq_true g]; rfl
  · unfold isSesB; rw [decide_eq_false (p := a < 3) g]; simp
theorem p_rdy {M : sdM} {rdy off : Bool} {Q : sdM → Prop} {X : String → sdM → Prop} (e1 : M 1 0 = bI rdy) (e2 : M 0 10 = bI off) (hX : (off || !rdy) = true → X ISE M) (hq : (off || !rdy) = false → Q M) : w_D_requireReady M Q X := by
  unfold w_D_requireReady
  rw [e1, e2]
  refine ⟨fun h => hX (by rw [bI_1.mp h]; rfl), fun h => ⟨fun g => hq (by rw [bI_0.mp h, bI_1.mp g]; rfl), fun g => hX (by rw [bI_0.mp g]; simp)⟩⟩
theorem p_opn {M : sdM} {rdy off : Bool} {Q : sdM → Prop} {X : String → sdM → Prop} (e1 : M 1 0 = bI rdy) (e2 : M 0 10 = bI off) (hX : (off || rdy) = true → X ISE M) (hq : (off || rdy) = false → Q M) : w_D_requireOpenSchema M Q X := by
  unfold w_D_requireOpenSchema
  rw [e1, e2]
  refine ⟨fun h => hX (by rw [bI_1.mp h]; rfl), fun h => ⟨fun g => hq (by rw [bI_0.mp h, bI_0.mp g]; rfl), fun g => hX (by rw [bI_1.mp g]; simp)⟩⟩
theorem m_isDown {M : sdM} {rdy off : Bool} {Q : Int32 → sdM → Prop} (e1 : M 116 1 = bI rdy) (e2 : M 116 25 = bI off) (hq : Q (bI (off || !rdy)) M) : w_O_isDown M Q := by
  unfold w_O_isDown
  rw [e1, e2]
  refine ⟨fun h => ⟨Or.inr rfl, ?_⟩, fun h => ⟨fun g => ⟨Or.inl rfl, ?_⟩, fun g => ⟨Or.inr rfl, ?_⟩⟩⟩
  · rw [bI_1.mp h] at hq; exact hq
  · rw [bI_0.mp h, bI_1.mp g] at hq; exact hq
  · rw [bI_0.mp h, bI_0.mp g] at hq; exact hq
def cNeeds (rdy off : Bool) (bg : Nat → Bool) (a : Int32) : Int32 := if off || !rdy then 1 else if !isSesB a then 2 else if !bg a.toNatClampNeg then 1 else 0
theorem p_needs {M : sdM} {rdy off : Bool} {bg : Nat → Bool} {a : Int32} {Q : sdM → Prop} {X : String → sdM → Prop} (e1 : M 1 0 = bI rdy) (e2 : M 0 10 = bI off) (e3 : ∀ s, s < 3 → M (83 + 11 * s) 0 = bI (bg s)) (hX : cNeeds rdy off bg a = 1 → X ISE M) (hX2 : cNeeds rdy off bg a = 2 → X IOB M) (hq : cNeeds rdy off bg a = 0 → ∀ s, s < 3 → a = zN s → bg s = true → Q M) : w_D_requireReady M (fun M1 => w_D_requireSession M1 a (fun M2 => w_D_requireBegun M2 a Q X) X) X := by
  refine p_rdy e1 e2 (fun h => hX (by unfold cNeeds; rw [h]; rfl)) (fun h => p_sess (fun g => hX2 (by unfold cNeeds; rw [h, g]; rfl)) (fun g => ?_))
  obtain ⟨s, hs, rfl⟩ := sesB g
  unfold w_D_requireBegun
  rw [zN_nat (by omega), e3 s hs]
  refine ⟨(zN_in (by omega)).mpr hs, fun k => ?_, fun k => hX ?_⟩
  · have hb := bI_1.mp k
    exact hq (by unfold cNeeds; rw [h, g, zN_nat (by omega), hb]; rfl) s hs rfl hb
  · unfold cNeeds; rw [h, g, zN_nat (by omega), bI_0.mp k]; rfl
theorem m_needs {M : sdM} {rdy off : Bool} {bg : Nat → Bool} {a : Int32} {Q : Int32 → sdM → Prop} (e1 : M 116 1 = bI rdy) (e2 : M 116 25 = bI off) (e3 : ∀ s, s < 3 → M 133 s = bI (bg s)) (hq : Q (cNeeds rdy off bg a) M) : w_O_needs M a Q := by
  unfold cNeeds at hq
  refine m_isDown e1 e2 ⟨fun h => ?_, fun h => ?_⟩
  · rw [bI_0.mp h, if_neg (by decide)] at hq
    refine m_isSession ⟨fun g => ?_, fun g => ?_⟩
    · obtain ⟨s, hs, rfl⟩ := sesB (bI_1.mp g)
      rw [bI_1.mp g, if_neg (by decide), zN_nat (by omega)] at hq
      rw [zN_nat (by omega), e3 s hs]
      refine ⟨(zN_in (by omega)).mpr hs, fun k => ?_, fun k => ?_⟩
      · rw [bI_0.mp k] at hq; exact hq
      · rw [bI_1.mp k] at hq; exact hq
    · rw [bI_0.mp g] at hq; exact hq
  · rw [bI_1.mp h] at hq; exact hq
theorem cNeeds_cases (rdy off : Bool) (bg : Nat → Bool) (a : Int32) : cNeeds rdy off bg a = 0 ∨ cNeeds rdy off bg a = 1 ∨ cNeeds rdy off bg a = 2 := by
  unfold cNeeds
  repeat' split
  all_goals simp
theorem cNeeds_0 {rdy off : Bool} {bg : Nat → Bool} {a : Int32} (h : cNeeds rdy off bg a = 0) : ∃ s, s < 3 ∧ a = zN s ∧ bg s = true ∧ off = false ∧ rdy = true := by
  unfold cNeeds at h
  split at h
  · cases h
  · rename_i h1
    split at h
    · cases h
    · rename_i h2
      split at h
      · cases h
      · rename_i h3
        have h2 : isSesB a = true := by simpa using h2
        obtain ⟨s, hs, rfl⟩ := sesB h2
        rw [zN_nat (by omega)] at h3
        simp at h1 h3
        exact ⟨s, hs, rfl, h3, h1.1, h1.2⟩
/-- a call on both sides gives the same code and answer, and keeps the states together -/
theorem joinJ {M : sdM} {W : (Int32 → sdM → Prop) → Prop} {V : sdM → (Int32 → sdM → Prop) → Prop} {code r : Int32} {C D C' D' I : sdM → Prop}
    (hC : ∀ Q : Int32 → sdM → Prop, (∀ M', code ≠ 0 → C M' → frC M M' → Q code M') → (∀ M', code = 0 → C' M' → frC M M' → M' 134 0 = r → Q 0 M') → W Q)
    (hD : ∀ M1, D M1 → ∀ Q : Int32 → sdM → Prop, (∀ M' b, code ≠ 0 → D M' → frM M1 M' → M' 116 0 = code → Q b M') → (∀ M', code = 0 → D' M' → frM M1 M' → M' 116 0 = 0 → Q r M') → V M1 Q)
    (d0 : D M) (fD : ∀ M1 M2, D M1 → frC M1 M2 → D M2) (fC : ∀ M1 M2, C M1 → frM M1 M2 → C M2) (fC' : ∀ M1 M2, C' M1 → frM M1 M2 → C' M2)
    (hI : ∀ M, C M → D M → I M) (hI' : ∀ M, C' M → D' M → I M) :
    W (fun k M1 => V M1 (fun b M2 => M2 116 0 = k ∧ (k = 0 → M2 134 0 = b) ∧ I M2)) := by
  refine hC _ (fun M1 hc c1 f1 => ?_) (fun M1 hc c1 f1 hr => ?_)
  · exact hD M1 (fD _ _ d0 f1) _ (fun M2 b _ d2 f2 ht => ⟨ht, fun h => (hc h).elim, hI M2 (fC _ _ c1 f2) d2⟩) (fun M2 h _ _ _ => (hc h).elim)
  · exact hD M1 (fD _ _ d0 f1) _ (fun M2 b h _ _ _ => (h hc).elim) (fun M2 _ d2 f2 ht => ⟨ht, fun _ => by rw [f2 134 (by omega)]; exact hr, hI' M2 (fC' _ _ c1 f2) d2⟩)
theorem CST.fm {M M' : sdM} {S : Sch} {rdy off : Bool} {chg wts : Nat} {hld : Int32} {pg : Nat} {w : Flt} {bg : Nat → Bool} {F : Nat → ASet} (h : CST M S rdy off chg wts hld pg w bg F) (he : frM M M') : CST M' S rdy off chg wts hld pg w bg F := h.fr (fun c hc => he c (by omega))
theorem MST.fc {M M' : sdM} {S : Sch} {rdy off : Bool} {chg wts : Nat} {hld : Int32} {pg : Nat} {w : Flt} {bg : Nat → Bool} {F : Nat → ASet} (h : MST M S rdy off chg wts hld pg w bg F) (he : frC M M') : MST M' S rdy off chg wts hld pg w bg F := h.fr (fun c h1 h2 => he c h1 h2)
def INV (t : Nat) (M : sdM) : Prop := ∃ S rdy off chg wts hld pg w bg F, CST M S rdy off chg wts hld pg w bg F ∧ MST M S rdy off chg wts hld pg w bg F ∧ OKS t S chg wts pg F
theorem OKS.mono {t : Nat} {S : Sch} {chg wts pg : Nat} {F : Nat → ASet} (h : OKS t S chg wts pg F) : OKS (t + 1) S chg wts pg F := ⟨h.1, by have := h.2.1; omega, h.2.2⟩
/-- what each call of both sides has to do -/
def goodJ (t : Nat) (k b : Int32) (M2 : sdM) : Prop := M2 116 0 = k ∧ (k = 0 → M2 134 0 = b) ∧ INV t M2
def goodZ (t : Nat) (k b : Int32) (M2 : sdM) : Prop := goodJ t k b M2 ∧ (k = 0 → sdB b)
/-- joinJ, where the answer is a boolean -/
theorem joinZ {t : Nat} {M : sdM} {W : (Int32 → sdM → Prop) → Prop} {V : sdM → (Int32 → sdM → Prop) → Prop} {code r : Int32} {C D C' D' : sdM → Prop}
    (hC : ∀ Q : Int32 → sdM → Prop, (∀ M', code ≠ 0 → C M' → frC M M' → Q code M') → (∀ M', code = 0 → C' M' → frC M M' → M' 134 0 = r → Q 0 M') → W Q)
    (hD : ∀ M1, D M1 → ∀ Q : Int32 → sdM → Prop, (∀ M' b, code ≠ 0 → D M' → frM M1 M' → M' 116 0 = code → Q b M') → (∀ M', code = 0 → D' M' → frM M1 M' → M' 116 0 = 0 → Q r M') → V M1 Q)
    (d0 : D M) (fD : ∀ M1 M2, D M1 → frC M1 M2 → D M2) (fC : ∀ M1 M2, C M1 → frM M1 M2 → C M2) (fC' : ∀ M1 M2, C' M1 → frM M1 M2 → C' M2)
    (hI : ∀ M, C M → D M → INV (t + 1) M) (hI' : ∀ M, C' M → D' M → INV (t + 1) M) (hr : sdB r := by first | exact bI_B _ | exact Or.inl rfl | exact Or.inr rfl) :
    W (fun k M1 => V M1 (fun b M2 => goodZ (t + 1) k b M2)) := by
  refine hC _ (fun M1 hc c1 f1 => ?_) (fun M1 hc c1 f1 hr9 => ?_)
  · exact hD M1 (fD _ _ d0 f1) _ (fun M2 b _ d2 f2 ht => ⟨⟨ht, fun h => (hc h).elim, hI M2 (fC _ _ c1 f2) d2⟩, fun h => (hc h).elim⟩) (fun M2 h _ _ _ => (hc h).elim)
  · exact hD M1 (fD _ _ d0 f1) _ (fun M2 b h _ _ _ => (h hc).elim) (fun M2 _ d2 f2 ht => ⟨⟨ht, fun _ => by rw [f2 134 (by omega)]; exact hr9, hI' M2 (fC' _ _ c1 f2) d2⟩, fun _ => hr⟩)
theorem zN_pred (n : Nat) : zN (n + 1) - 1 = zN n := zN_sub (a := n + 1) (b := 1) (by omega)
theorem zN_succ (n : Nat) : zN n + 1 = zN (n + 1) := zN_add n 1
theorem CST.sch {S : Sch} {rdy off : Bool} {chg wts : Nat} {hld : Int32} {pg : Nat} {w : Flt} {bg : Nat → Bool} {F : Nat → ASet} {M M' : sdM} {S' : Sch} (hc : CST M S rdy off chg wts hld pg w bg F) (hS : SCC M' S') (h10 : M' 1 0 = M 1 0) (he : ∀ c, c = 0 ∨ 25 ≤ c ∧ c < 116 → M' c = M c) : CST M' S' rdy off chg wts hld pg w bg F := by
  refine ⟨hS, ?_, hc.2.2.fr (fun c h => he c (Or.inr ⟨h.1, h.2.1⟩))⟩
  obtain ⟨h1, h2, h3, h4, h5, h6, h7, h8⟩ := hc.2.1
  unfold CV
  rw [he 0 (by omega), h10, he 42 (by omega)]
  refine ⟨h1, h2, h3, h4, h5, h6, h7, fun s hs => ?_⟩
  rw [he (83 + 11 * s) (by omega)]
  exact h8 s hs
theorem MST.sch {S : Sch} {rdy off : Bool} {chg wts : Nat} {hld : Int32} {pg : Nat} {w : Flt} {bg : Nat → Bool} {F : Nat → ASet} {M M' : sdM} {S' : Sch} (hm : MST M S rdy off chg wts hld pg w bg F) (hS : SCM M' S') (h1 : ∀ j, j ≠ 0 → j ≠ 2 → j ≠ 10 → M' 116 j = M 116 j) (he : ∀ c, 129 ≤ c → c ≤ 133 → M' c = M c) : MST M' S' rdy off chg wts hld pg w bg F := by
  refine ⟨hS, ?_, fun j hj => (hm.2.2 j hj).fr (fun c a b => he c a (by omega))⟩
  have := hm.2.1
  unfold MV at this ⊢
  rw [h1 1 (by omega) (by omega) (by omega), h1 25 (by omega) (by omega) (by omega), h1 21 (by omega) (by omega) (by omega), h1 20 (by omega) (by omega) (by omega), h1 24 (by omega) (by omega) (by omega), h1 23 (by omega) (by omega) (by omega), h1 26 (by omega) (by omega) (by omega), h1 27 (by omega) (by omega) (by omega), h1 28 (by omega) (by omega) (by omega), h1 29 (by omega) (by omega) (by omega), h1 30 (by omega) (by omega) (by omega), he 133 (by omega) (by omega)]
  exact this
theorem CST.o134 {S : Sch} {rdy off : Bool} {chg wts : Nat} {hld : Int32} {pg : Nat} {w : Flt} {bg : Nat → Bool} {F : Nat → ASet} {M : sdM} {x : Int32} (hc : CST M S rdy off chg wts hld pg w bg F) : CST (sd_s M 134 0 x) S rdy off chg wts hld pg w bg F := hc.fr (fun c h => sd_s_o (by omega))
def cList (S : Sch) (rdy off : Bool) : Int32 := if off || rdy then 1 else if nlS S == 4 then 1 else 0
def addLs (S : Sch) : Sch := (nlS S + 1, S.2)
theorem C_list {S : Sch} {rdy off : Bool} {chg wts : Nat} {hld : Int32} {pg : Nat} {w : Flt} {bg : Nat → Bool} {F : Nat → ASet} {M : sdM} {t : Nat} (hc : CST M S rdy off chg wts hld pg w bg F) (hk : OKS t S chg wts pg F) {Q : Int32 → sdM → Prop} (h1 : ∀ M', cList S rdy off ≠ 0 → CST M' S rdy off chg wts hld pg w bg F → frC M M' → Q (cList S rdy off) M') (h0 : ∀ M', cList S rdy off = 0 → CST M' (addLs S) rdy off chg wts hld pg w bg F → frC M M' → M' 134 0 = zN (nlS S) → Q 0 M') : w_L_list M Q := by
  have n4 := hk.1.1.2
  refine p_opn hc.2.1.1 hc.2.1.2.1 (fun h => ⟨rfl, ?_⟩) (fun h => ?_)
  · have e : cList S rdy off = 1 := by unfold cList; rw [h]; rfl
    rw [e] at h1
    exact h1 M (by decide) hc (frC.rf _)
  · rw [hc.1.1, show (4 : Int32) = zN 4 from rfl, zN_lt (by omega) (by omega)]
    refine ⟨fun g M5 e5 M6 e6 => ?_, fun g => ⟨rfl, ?_⟩⟩
    · have e : cList S rdy off = 0 := by unfold cList; rw [h, show (nlS S == 4) = false by simp; omega]; rfl
      rw [show zN (nlS S) + 1 = zN (nlS S + 1) from zN_add (nlS S) 1] at e5
      rw [e5, sd_s_self, zN_pred] at e6
      subst e6
      refine h0 _ e (CST.sch hc ⟨?_, fun l hl => ?_, fun i hi => ?_, ?_, fun r hr => ?_⟩ ?_ (fun c h9 => ?_)) (((frC.rf M).s (Or.inl (by omega))).s (Or.inr (by omega))) (sd_s_self _ _ _ _)
      · rw [sd_s_o (by omega), sd_s_self]; rfl
      · rw [sd_s_o (by omega), sd_s_o (by omega)]; exact hc.1.2.1 l hl
      · unfold leafC; rw [sd_s_o (by omega), sd_s_o (by omega)]; exact hc.1.2.2.1 i hi
      · rw [sd_s_o (by omega), sd_s_ne (by omega)]; exact hc.1.2.2.2.1
      · unfold ruleC; rw [sd_s_o (by omega), sd_s_o (by omega)]; exact hc.1.2.2.2.2 r hr
      · rw [sd_s_o (by omega), sd_s_ne (by omega)]
      · rw [sd_s_o (by omega), sd_s_o (by omega)]
    · have e : cList S rdy off = 1 := by unfold cList; rw [h, show (nlS S == 4) = true by simp; omega]; rfl
      rw [e] at h1
      exact h1 M (by decide) hc (frC.rf _)
theorem O_list {S : Sch} {rdy off : Bool} {chg wts : Nat} {hld : Int32} {pg : Nat} {w : Flt} {bg : Nat → Bool} {F : Nat → ASet} {M : sdM} {t : Nat} (hm : MST M S rdy off chg wts hld pg w bg F) (hk : OKS t S chg wts pg F) {Q : Int32 → sdM → Prop} (h1 : ∀ M' b, cList S rdy off ≠ 0 → MST M' S rdy off chg wts hld pg w bg F → frM M M' → M' 116 0 = cList S rdy off → Q b M') (h0 : ∀ M', cList S rdy off = 0 → MST M' (addLs S) rdy off chg wts hld pg w bg F → frM M M' → M' 116 0 = 0 → Q (zN (nlS S)) M') : w_O_list M Q := by
  have n4 := hk.1.1.2
  have bad : cList S rdy off = 1 → k_O_list_28 Q M 1 := by
    intro e M5 e5
    rw [e] at h1
    subst e5
    rw [sd_s_self]
    exact ⟨fun h => absurd h (by decide), fun _ => h1 _ _ (by decide) hm.thr ((frM.rf M).s (by omega)) (sd_s_self _ _ _ _)⟩
  unfold w_O_list
  rw [hm.2.1.1, hm.2.1.2.1, hm.1.1, show (4 : Int32) = zN 4 from rfl, zN_eq (by omega) (by omega)]
  refine ⟨fun h => bad ?_, fun h => ⟨fun g => bad ?_, fun g => ⟨fun k M5 e5 => ?_, fun k => bad ?_⟩⟩⟩
  · unfold cList; rw [bI_1.mp h]; rfl
  · unfold cList; rw [bI_1.mp g]; simp
  · subst e5
    rw [sd_s_self]
    refine ⟨fun _ M7 e7 => ?_, fun h => absurd (by decide) h⟩
    have e : cList S rdy off = 0 := by unfold cList; rw [bI_0.mp h, bI_0.mp g, show (nlS S == 4) = false by simp; omega]; rfl
    rw [sd_s_ne (by omega), hm.1.1, show zN (nlS S) + 1 = zN (nlS S + 1) from zN_add (nlS S) 1] at e7
    subst e7
    rw [sd_s_self, zN_pred]
    refine h0 _ e (MST.sch hm ⟨?_, fun l hl => ?_, fun i hi => ?_, ?_, fun r hr => ?_⟩ (fun j a b c => ?_) (fun c a b => ?_)) (((frM.rf M).s (by omega)).s (by omega)) ?_
    · rw [sd_s_self]; rfl
    · rw [sd_s_o (by omega), sd_s_o (by omega)]; exact hm.1.2.1 l hl
    · unfold leafM; rw [sd_s_o (by omega), sd_s_o (by omega), sd_s_o (by omega), sd_s_o (by omega), sd_s_o (by omega), sd_s_o (by omega), sd_s_o (by omega), sd_s_o (by omega), sd_s_o (by omega), sd_s_o (by omega), sd_s_o (by omega), sd_s_o (by omega)]; exact hm.1.2.2.1 i hi
    · rw [sd_s_ne (by omega), sd_s_ne (by omega)]; exact hm.1.2.2.2.1
    · unfold ruleM; rw [sd_s_o (by omega), sd_s_o (by omega), sd_s_o (by omega), sd_s_o (by omega), sd_s_o (by omega), sd_s_o (by omega), sd_s_o (by omega), sd_s_o (by omega), sd_s_o (by omega), sd_s_o (by omega)]; exact hm.1.2.2.2.2 r hr
    · rw [sd_s_ne b, sd_s_ne a]
    · rw [sd_s_o (by omega), sd_s_o (by omega)]
    · rw [sd_s_ne (by omega), sd_s_self]
  · unfold cList; rw [bI_0.mp h, bI_0.mp g, k]; rfl
theorem okA.ls {S : Sch} {A : ASet} (h : okA S A) : okA (addLs S) A := fun l hl => ⟨(h l hl).1, (h l hl).2.1, (h l hl).2.2.1, fun g => (h l hl).2.2.2 (by have : nlS (addLs S) = nlS S + 1 := rfl; omega)⟩
theorem OKS.sch {t : Nat} {S S' : Sch} {chg wts pg : Nat} {F : Nat → ASet} (h : OKS t S chg wts pg F) (hS : okSch S') (hA : ∀ A, okA S A → okA S' A) : OKS (t + 1) S' chg wts pg F := ⟨hS, by have := h.2.1; omega, h.2.2.1, h.2.2.2.1, fun j hj => hA _ (h.2.2.2.2.1 j hj), h.2.2.2.2.2⟩
theorem okSch.ls {S : Sch} (h : okSch S) (hn : nlS S < 4) : okSch (addLs S) := ⟨⟨by have : nlS (addLs S) = nlS S + 1 := rfl; omega, by have : nlS (addLs S) = nlS S + 1 := rfl; omega⟩, h.2⟩
theorem cList_0 {S : Sch} {rdy off : Bool} (hk : okSch S) (h : cList S rdy off = 0) : nlS S < 4 := by
  unfold cList at h
  have := hk.1.2
  split at h
  · cases h
  · split at h
    · cases h
    · rename_i h2; simp at h2; omega
theorem J_list {t : Nat} {M : sdM} (h : INV t M) : w_L_list M (fun k M1 => w_O_list M1 (fun b M2 => goodJ (t + 1) k b M2)) := by
  obtain ⟨S, rdy, off, chg, wts, hld, pg, w, bg, F, hc, hm, hk⟩ := h
  by_cases e : cList S rdy off = 0
  · exact joinJ (fun Q a b => C_list hc hk a b) (fun M1 d Q a b => O_list d hk a b) hm (fun _ _ d f => d.fc f) (fun _ _ c f => c.fm f) (fun _ _ c f => c.fm f) (fun M' c d => ⟨_, _, _, _, _, _, _, _, _, _, c, d, hk.mono⟩) (fun M' c d => ⟨_, _, _, _, _, _, _, _, _, _, c, d, hk.sch (hk.1.ls (cList_0 hk.1 e)) (fun A hA => hA.ls)⟩)
  · exact joinJ (C' := fun _ => False) (D' := fun _ => False) (r := 0) (fun Q a b => C_list hc hk a (fun M' h => (e h).elim)) (fun M1 d Q a b => O_list d hk a (fun M' h => (e h).elim)) hm (fun _ _ d f => d.fc f) (fun _ _ c f => c.fm f) (fun _ _ c f => c) (fun M' c d => ⟨_, _, _, _, _, _, _, _, _, _, c, d, hk.mono⟩) (fun M' c d => c.elim)
def goodLf (S : Sch) (kd lo hi : Int32) : Bool := if kd = 0 then decide (lo ≤ hi) else (decide (kd = 1) && (decide (0 < lo) && decide (lo < zN (nlS S))))
def cLeaf (S : Sch) (rdy off : Bool) (l kd lo hi fl : Int32) : Int32 := if off || rdy then 1 else if !isLstB S l then 2 else if lvS S l.toNatClampNeg == 4 then 1 else if !goodLf S kd lo hi || (decide (fl < 0) || decide (3 < fl)) then 3 else 0
def newLf (S : Sch) (i : Nat) (kd lo hi : Int32) (b : Nat) : Lf := (decide (kd = 1), lo, hi, b, lfHs (lfS S i), lfSv (lfS S i))
def addLf (S : Sch) (l : Nat) (kd lo hi : Int32) (b : Nat) : Sch := (nlS S, va_up (lvS S) l (lvS S l + 1), va_up (lfS S) (4 * l + lvS S l) (newLf S (4 * l + lvS S l) kd lo hi b), S.2.2.2)
theorem i_pos {a : Int32} (h : ¬ a = 0) : decide (0 < a) = decide (0 ≤ a) := by
  have : a.toInt ≠ 0 := fun e => h (Int32.toInt_inj.mp e)
  rw [decide_eq_decide, Int32.lt_iff_toInt_lt, Int32.le_iff_toInt_le]
  have : (0 : Int32).toInt = 0 := rfl
  omega
theorem p_allows {M : sdM} {S : Sch} {kd lo hi : Int32} {Q : Int32 → sdM → Prop} (hS : SCC M S) (hq : Q (bI (goodLf S kd lo hi)) M) : w_C_allowsLeaf M kd lo hi Q := by
  unfold goodLf at hq
  refine ⟨fun h => ⟨fun g => ⟨Or.inl rfl, ?_⟩, fun g => ⟨fun k => ⟨Or.inl rfl, ?_⟩, fun k => p_hasList hS ⟨fun m => ⟨Or.inl rfl, ?_⟩, fun m => ⟨Or.inr rfl, ?_⟩⟩⟩⟩, fun h => ⟨fun g => ⟨Or.inl rfl, ?_⟩, fun g => ⟨Or.inr rfl, ?_⟩⟩⟩
  · rw [if_neg h, decide_eq_false g] at hq; exact hq
  · rw [if_neg h, k] at hq
    rw [show decide ((0 : Int32) < 0) = false by decide] at hq
    simp at hq; exact hq
  · have e := bI_0.mp m
    unfold isLstB at e
    rw [if_neg h, decide_eq_true g, i_pos k, e] at hq; exact hq
  · have e := bI_1.mp m
    unfold isLstB at e
    rw [if_neg h, decide_eq_true g, i_pos k, e] at hq; exact hq
  · rw [if_pos h, decide_eq_false (fun q => i_nlt.mpr q g)] at hq; exact hq
  · rw [if_pos h, decide_eq_true (i_nlt.mp g)] at hq; exact hq
theorem flC1 : ∀ b, b < 4 → (zN b &&& (1 : Int32) = 0 ↔ b.testBit 0 = false) := by decide
theorem flC2 : ∀ b, b < 4 → (zN b &&& (2 : Int32) = 0 ↔ b.testBit 1 = false) := by decide
theorem SCC.lf {M : sdM} {S : Sch} {l b n o : Nat} {kd lo hi : Int32} (hS : SCC M S) (hl : l < 4) (hn : lvS S l = n) (h4 : n < 4) (ho : o = 5 + (4 * l + n)) (hh : M o 5 = bI (lfHs (lfS S (4 * l + n)))) (hv : M o 6 = lfSv (lfS S (4 * l + n))) : SCC (sd_s (sd_s (sd_s (sd_s (sd_s (sd_s M o 0 (bI (decide (kd = 1)))) o 1 lo) o 2 hi) o 3 (bI (b.testBit 0))) o 4 (bI (b.testBit 1))) 2 l (zN (n + 1))) (addLf S l kd lo hi b) := by
  subst ho
  refine ⟨?_, fun l' hl' => ?_, fun i hi' => ?_, ?_, fun r hr => ?_⟩
  · rw [sd_s_o (by omega), sd_s_o (by omega), sd_s_o (by omega), sd_s_o (by omega), sd_s_o (by omega), sd_s_o (by omega)]; exact hS.1
  · show _ = zN (va_up (lvS S) l (lvS S l + 1) l')
    by_cases e : l' = l
    · subst e; rw [sd_s_self, va_up_self, hn]
    · rw [sd_s_ne e, va_up_ne _ _ e, sd_s_o (by omega), sd_s_o (by omega), sd_s_o (by omega), sd_s_o (by omega), sd_s_o (by omega)]
      exact hS.2.1 l' hl'
  · show leafC _ _ (va_up (lfS S) (4 * l + lvS S l) (newLf S (4 * l + lvS S l) kd lo hi b) i)
    rw [hn]
    by_cases e : i = 4 * l + n
    · subst e
      rw [va_up_self]
      refine ⟨?_, ?_, ?_, ?_, ?_, ?_, ?_⟩
      · rw [sd_s_o (by omega), sd_s_ne (by omega), sd_s_ne (by omega), sd_s_ne (by omega), sd_s_ne (by omega), sd_s_self]; rfl
      · rw [sd_s_o (by omega), sd_s_ne (by omega), sd_s_ne (by omega), sd_s_ne (by omega), sd_s_self]; rfl
      · rw [sd_s_o (by omega), sd_s_ne (by omega), sd_s_ne (by omega), sd_s_self]; rfl
      · rw [sd_s_o (by omega), sd_s_ne (by omega), sd_s_self]; rfl
      · rw [sd_s_o (by omega), sd_s_self]; rfl
      · rw [sd_s_o (by omega), sd_s_ne (by omega), sd_s_ne (by omega), sd_s_ne (by omega), sd_s_ne (by omega), sd_s_ne (by omega)]; exact hh
      · rw [sd_s_o (by omega), sd_s_ne (by omega), sd_s_ne (by omega), sd_s_ne (by omega), sd_s_ne (by omega), sd_s_ne (by omega)]; exact hv
    · rw [va_up_ne _ _ e]
      unfold leafC
      rw [sd_s_o (by omega), sd_s_o (by omega), sd_s_o (by omega), sd_s_o (by omega), sd_s_o (by omega), sd_s_o (by omega)]
      exact hS.2.2.1 i hi'
  · rw [sd_s_o (by omega), sd_s_o (by omega), sd_s_o (by omega), sd_s_o (by omega), sd_s_o (by omega), sd_s_o (by omega)]; exact hS.2.2.2.1
  · unfold ruleC
    rw [sd_s_o (by omega), sd_s_o (by omega), sd_s_o (by omega), sd_s_o (by omega), sd_s_o (by omega), sd_s_o (by omega)]
    exact hS.2.2.2.2 r hr
theorem p_addLeaf {M : sdM} {S : Sch} {l b n : Nat} {kd lo hi : Int32} {Q : Int32 → sdM → Prop} (hS : SCC M S) (hl : l < 4) (hn : lvS S l = n) (h4 : n < 4) (hb : b < 4) (hq : ∀ M', SCC M' (addLf S l kd lo hi b) → (∀ c, c < 2 ∨ 25 ≤ c → M' c = M c) → Q (zN n) M') : w_C_addLeaf M (zN l) kd lo hi (zN b) Q := by
  have hleaf := hS.2.2.1 (4 * l + n) (by omega)
  unfold w_C_addLeaf
  rw [zN_nat (by omega), hS.2.1 l hl, hn]
  refine ⟨(zN_in (by omega)).mpr hl, p_leafAt hl h4 ?_⟩
  have go2 : ∀ s1 s2 s3 : Int32, s1 = bI (decide (kd = 1)) → s2 = bI (b.testBit 0) → s3 = bI (b.testBit 1) → ∀ M3, M3 = sd_s (sd_s (sd_s (sd_s M (5 + (4 * l + n)) 0 s1) (5 + (4 * l + n)) 1 lo) (5 + (4 * l + n)) 2 hi) (5 + (4 * l + n)) 3 s2 → k_C_addLeaf_76 Q M3 (zN l) (zN n) (5 + (4 * l + n)) s3 := by
    intro s1 s2 s3 e1 e2 e3 M3 e
    subst e1; subst e2; subst e3; subst e
    refine ⟨bI_B _, fun M4 e4 => ⟨(zN_in (by omega)).mpr hl, (zN_in (by omega)).mpr hl, fun M5 e5 => ?_⟩⟩
    have z : M4 2 l = zN n := by rw [e4, sd_s_o (by omega), sd_s_o (by omega), sd_s_o (by omega), sd_s_o (by omega), sd_s_o (by omega), hS.2.1 l hl, hn]
    rw [zN_nat (by omega), z, zN_succ, e4] at e5
    subst e5
    refine hq _ (hS.lf hl hn h4 rfl hleaf.2.2.2.2.2.1 hleaf.2.2.2.2.2.2) (fun c hc => ?_)
    rw [sd_s_o (by omega), sd_s_o (by omega), sd_s_o (by omega), sd_s_o (by omega), sd_s_o (by omega), sd_s_o (by omega)]
  have go1 : ∀ s1 : Int32, s1 = bI (decide (kd = 1)) → k_C_addLeaf_29 Q M (zN l) lo hi (zN b) (zN n) (5 + (4 * l + n)) (5 + (4 * l + n)) s1 := by
    intro s1 e1
    have go3 : ∀ s2 : Int32, s2 = bI (b.testBit 0) → ∀ M3, M3 = sd_s (sd_s (sd_s M (5 + (4 * l + n)) 0 s1) (5 + (4 * l + n)) 1 lo) (5 + (4 * l + n)) 2 hi → k_C_addLeaf_59 Q M3 (zN l) (zN b) (zN n) (5 + (4 * l + n)) (5 + (4 * l + n)) s2 := by
      intro s2 e2 M3 e3
      refine ⟨by rw [e2]; exact bI_B _, fun M4 e4 => ?_⟩
      rw [e3] at e4
      rw [flC2 b hb]
      exact ⟨fun g => go2 s1 s2 _ e1 e2 (by rw [g]; rfl) M4 e4, fun g => go2 s1 s2 _ e1 e2 (by rw [Bool.not_eq_false] at g; rw [g]; rfl) M4 e4⟩
    refine ⟨by rw [e1]; exact bI_B _, fun M1 f1 M2 f2 M3 f3 => ?_⟩
    rw [f2, f1] at f3
    rw [flC1 b hb]
    exact ⟨fun g => go3 _ (by rw [g]; rfl) M3 f3, fun g => go3 _ (by rw [Bool.not_eq_false] at g; rw [g]; rfl) M3 f3⟩
  exact ⟨fun g => go1 0 (by rw [decide_eq_false g]; rfl), fun g => go1 1 (by rw [decide_eq_true g]; rfl)⟩
/-- what a leaf that may be added is -/
theorem cLeaf_0 {S : Sch} {rdy off : Bool} {l kd lo hi fl : Int32} (hk : okSch S) (h : cLeaf S rdy off l kd lo hi fl = 0) : (off || rdy) = false ∧ ∃ l' b, l' < nlS S ∧ l' < 4 ∧ l = zN l' ∧ lvS S l' < 4 ∧ b < 4 ∧ fl = zN b ∧ goodLf S kd lo hi = true := by
  unfold cLeaf at h
  split at h
  · cases h
  · rename_i h1
    split at h
    · cases h
    · rename_i h2
      split at h
      · cases h
      · rename_i h3
        split at h
        · cases h
        · rename_i h4
          have h2 : isLstB S l = true := by simpa using h2
          obtain ⟨l', a1, a2, rfl⟩ := lstB hk h2
          rw [zN_nat (by omega)] at h3
          have a3 := hk.2.1 l'
          simp at h3 h4
          obtain ⟨g1, g2, g3⟩ := h4
          obtain ⟨b, hb, rfl⟩ := zN_of (i_nlt.mpr g2)
          rw [show (3 : Int32) = zN 3 from rfl, zN_le hb (by omega)] at g3
          exact ⟨by simpa using h1, l', b, a1, a2, rfl, by omega, by omega, rfl, g1⟩
theorem C_leaf {S : Sch} {rdy off : Bool} {chg wts : Nat} {hld : Int32} {pg : Nat} {w : Flt} {bg : Nat → Bool} {F : Nat → ASet} {M : sdM} {l kd lo hi fl : Int32} {t : Nat} (hc : CST M S rdy off chg wts hld pg w bg F) (hk : OKS t S chg wts pg F) {Q : Int32 → sdM → Prop} (h1 : ∀ M', cLeaf S rdy off l kd lo hi fl ≠ 0 → CST M' S rdy off chg wts hld pg w bg F → frC M M' → Q (cLeaf S rdy off l kd lo hi fl) M') (h0 : ∀ M', cLeaf S rdy off l kd lo hi fl = 0 → CST M' (addLf S l.toNatClampNeg kd lo hi fl.toNatClampNeg) rdy off chg wts hld pg w bg F → frC M M' → M' 134 0 = zN (lvS S l.toNatClampNeg) → Q 0 M') : w_L_leaf M l kd lo hi fl Q := by
  have bad : ∀ c : Int32, cLeaf S rdy off l kd lo hi fl = c → c ≠ 0 → Q c M := fun c e hne => by
    rw [e] at h1; exact h1 M hne hc (frC.rf _)
  refine p_opn hc.2.1.1 hc.2.1.2.1 (fun h => Or.inl ⟨rfl, bad 1 ?_ (by decide)⟩) (fun h => p_hasList hc.1 ⟨fun g => ?_, fun g => Or.inr (Or.inl ⟨rfl, bad 2 ?_ (by decide)⟩)⟩)
  · unfold cLeaf; rw [h]; rfl
  · have g := bI_1.mp g
    obtain ⟨l', a1, a2, rfl⟩ := lstB hk.1 g
    have a3 := hk.1.2.1 l'
    show vp_in _ 4 ∧ _
    rw [zN_nat (by omega), hc.1.2.1 l' a2, show (4 : Int32) = zN 4 from rfl, zN_lt (by omega) (by omega)]
    rw [zN_nat (by omega)] at h0
    have c3 : lvS S l' < 4 → cLeaf S rdy off (zN l') kd lo hi fl = if !goodLf S kd lo hi || (decide (fl < 0) || decide (3 < fl)) then 3 else 0 := by
      intro hlt
      unfold cLeaf
      rw [h, g, zN_nat (by omega), show (lvS S l' == 4) = false by simp; omega]; rfl
    refine ⟨(zN_in (by omega)).mpr a2, fun k => p_allows hc.1 ⟨fun m => Or.inr (Or.inr ⟨rfl, bad 3 ?_ (by decide)⟩), fun m => ⟨fun m2 => Or.inr (Or.inr ⟨rfl, bad 3 ?_ (by decide)⟩), fun m2 => ⟨fun m3 => ?_, fun m3 => Or.inr (Or.inr ⟨rfl, bad 3 ?_ (by decide)⟩)⟩⟩⟩, fun k => Or.inl ⟨rfl, bad 1 ?_ (by decide)⟩⟩
    · rw [c3 k, bI_0.mp m]; rfl
    · rw [c3 k, decide_eq_true m2]; simp
    · have e0 : cLeaf S rdy off (zN l') kd lo hi fl = 0 := by
        rw [c3 k, bI_1.mp m, decide_eq_false m2, decide_eq_false (fun q => i_nle.mpr q m3)]; rfl
      obtain ⟨b, hb, rfl⟩ := zN_of m2
      rw [show (3 : Int32) = zN 3 from rfl, zN_le hb (by omega)] at m3
      rw [zN_nat (by omega)] at h0
      refine p_addLeaf hc.1 a2 rfl k (by omega) (fun M' s1 s2 M2 e2 => ?_)
      subst e2
      have s2' : ∀ c, c < 116 → sd_s M' 134 0 (zN (lvS S l')) c = M' c := fun c _ => sd_s_o (by omega)
      refine h0 _ e0 (CST.sch hc (s1.fr (fun c h9 => s2' c (by omega))) ?_ (fun c h9 => ?_)) (fun c a b => ?_) (sd_s_self _ _ _ _)
      · rw [s2' 1 (by omega), s2 1 (by omega)]
      · rw [s2' c (by omega), s2 c (by omega)]
      · rw [sd_s_o (by omega), s2 c (by omega)]
    · rw [c3 k, decide_eq_true (i_nle.mp m3)]; simp
    · unfold cLeaf
      rw [h, g, zN_nat (by omega), show (lvS S l' == 4) = true by simp; omega]; rfl
  · unfold cLeaf; rw [h, bI_0.mp g]; rfl
theorem SCM.lf {M : sdM} {S : Sch} {l b n i0 : Nat} {kd lo hi : Int32} (hS : SCM M S) (hl : l < 4) (hn : lvS S l = n) (h4 : n < 4) (ho : i0 = 4 * l + n) : SCM (sd_s (sd_s (sd_s (sd_s (sd_s M 118 i0 (bI (decide (kd = 1)))) 119 i0 lo) 120 i0 hi) 121 i0 (zN b)) 117 l (zN (n + 1))) (addLf S l kd lo hi b) := by
  subst ho
  refine ⟨?_, fun l' hl' => ?_, fun i hi' => ?_, ?_, fun r hr => ?_⟩
  · rw [sd_s_o (by omega), sd_s_o (by omega), sd_s_o (by omega), sd_s_o (by omega), sd_s_o (by omega)]; exact hS.1
  · show _ = zN (va_up (lvS S) l (lvS S l + 1) l')
    by_cases e : l' = l
    · subst e; rw [sd_s_self, va_up_self, hn]
    · rw [sd_s_ne e, va_up_ne _ _ e, sd_s_o (by omega), sd_s_o (by omega), sd_s_o (by omega), sd_s_o (by omega)]
      exact hS.2.1 l' hl'
  · show leafM _ _ (va_up (lfS S) (4 * l + lvS S l) (newLf S (4 * l + lvS S l) kd lo hi b) i)
    rw [hn]
    have old := hS.2.2.1 i hi'
    by_cases e : i = 4 * l + n
    · subst e
      rw [va_up_self]
      refine ⟨?_, ?_, ?_, ?_, ?_, ?_⟩
      · rw [sd_s_o (by omega), sd_s_o (by omega), sd_s_o (by omega), sd_s_o (by omega), sd_s_self]; rfl
      · rw [sd_s_o (by omega), sd_s_o (by omega), sd_s_o (by omega), sd_s_self]; rfl
      · rw [sd_s_o (by omega), sd_s_o (by omega), sd_s_self]; rfl
      · rw [sd_s_o (by omega), sd_s_self]; rfl
      · rw [sd_s_o (by omega), sd_s_o (by omega), sd_s_o (by omega), sd_s_o (by omega), sd_s_o (by omega)]; exact old.2.2.2.2.1
      · rw [sd_s_o (by omega), sd_s_o (by omega), sd_s_o (by omega), sd_s_o (by omega), sd_s_o (by omega)]; exact old.2.2.2.2.2
    · rw [va_up_ne _ _ e]
      refine ⟨?_, ?_, ?_, ?_, ?_, ?_⟩
      · rw [sd_s_o (by omega), sd_s_o (by omega), sd_s_o (by omega), sd_s_o (by omega), sd_s_ne e]; exact old.1
      · rw [sd_s_o (by omega), sd_s_o (by omega), sd_s_o (by omega), sd_s_ne e, sd_s_o (by omega)]; exact old.2.1
      · rw [sd_s_o (by omega), sd_s_o (by omega), sd_s_ne e, sd_s_o (by omega), sd_s_o (by omega)]; exact old.2.2.1
      · rw [sd_s_o (by omega), sd_s_ne e, sd_s_o (by omega), sd_s_o (by omega), sd_s_o (by omega)]; exact old.2.2.2.1
      · rw [sd_s_o (by omega), sd_s_o (by omega), sd_s_o (by omega), sd_s_o (by omega), sd_s_o (by omega)]; exact old.2.2.2.2.1
      · rw [sd_s_o (by omega), sd_s_o (by omega), sd_s_o (by omega), sd_s_o (by omega), sd_s_o (by omega)]; exact old.2.2.2.2.2
  · rw [sd_s_o (by omega), sd_s_o (by omega), sd_s_o (by omega), sd_s_o (by omega), sd_s_o (by omega)]; exact hS.2.2.2.1
  · have old := hS.2.2.2.2 r hr
    have q : ∀ c, 124 ≤ c → c ≤ 128 → (sd_s (sd_s (sd_s (sd_s (sd_s M 118 (4 * l + n) (bI (decide (kd = 1)))) 119 (4 * l + n) lo) 120 (4 * l + n) hi) 121 (4 * l + n) (zN b)) 117 l (zN (n + 1))) c = M c := fun c a b => by
      rw [sd_s_o (by omega), sd_s_o (by omega), sd_s_o (by omega), sd_s_o (by omega), sd_s_o (by omega)]
    unfold ruleM
    rw [q 124 (by omega) (by omega), q 125 (by omega) (by omega), q 126 (by omega) (by omega), q 127 (by omega) (by omega), q 128 (by omega) (by omega)]
    exact old
theorem O_leaf {S : Sch} {rdy off : Bool} {chg wts : Nat} {hld : Int32} {pg : Nat} {w : Flt} {bg : Nat → Bool} {F : Nat → ASet} {M : sdM} {l kd lo hi fl : Int32} {t : Nat} (hm : MST M S rdy off chg wts hld pg w bg F) (hk : OKS t S chg wts pg F) {Q : Int32 → sdM → Prop} (h1 : ∀ M' b, cLeaf S rdy off l kd lo hi fl ≠ 0 → MST M' S rdy off chg wts hld pg w bg F → frM M M' → M' 116 0 = cLeaf S rdy off l kd lo hi fl → Q b M') (h0 : ∀ M', cLeaf S rdy off l kd lo hi fl = 0 → MST M' (addLf S l.toNatClampNeg kd lo hi fl.toNatClampNeg) rdy off chg wts hld pg w bg F → frM M M' → M' 116 0 = 0 → Q (zN (lvS S l.toNatClampNeg)) M') : w_O_leaf M l kd lo hi fl Q := by
  have bad : ∀ c : Int32, cLeaf S rdy off l kd lo hi fl = c → ¬ c ≤ 0 → k_O_leaf_124 Q M l kd lo hi fl c := by
    intro e he hne M5 e5
    subst e5
    rw [sd_s_self]
    rw [he] at h1
    exact ⟨fun h => absurd h hne, fun _ => h1 _ _ (fun h => hne (by rw [h]; decide)) hm.thr ((frM.rf M).s (by omega)) (sd_s_self _ _ _ _)⟩
  have good : cLeaf S rdy off l kd lo hi fl = 0 → k_O_leaf_124 Q M l kd lo hi fl 0 := by
    intro e M5 e5
    obtain ⟨-, l', b, a1, a2, rfl, a3, a4, rfl, a5⟩ := cLeaf_0 hk.1 e
    rw [zN_nat (by omega), zN_nat (by omega)] at h0
    have m5 : MST M5 S rdy off chg wts hld pg w bg F := by rw [e5]; exact hm.thr
    have f5 : frM M M5 := by rw [e5]; exact (frM.rf M).s (by omega)
    have t5 : M5 116 0 = 0 := by rw [e5, sd_s_self]
    rw [t5]
    refine ⟨fun _ => ⟨(zN_in (by omega)).mpr a2, ?_⟩, fun h => absurd (by decide) h⟩
    rw [zN_nat (by omega), m5.1.2.1 l' a2, zN4]
    have go : ∀ s2 : Int32, s2 = bI (decide (kd = 1)) → k_O_leaf_164 Q M5 (zN l') lo hi (zN b) (zN (4 * l' + lvS S l')) 118 (zN (4 * l' + lvS S l')) s2 := by
      intro s2 e2
      have i16 : vp_in (zN (4 * l' + lvS S l')) 16 := (zN_in (by omega)).mpr (by omega)
      have il : vp_in (zN l') 4 := (zN_in (by omega)).mpr a2
      refine ⟨i16, by rw [e2]; exact bI_B _, fun N1 n1 => ⟨i16, fun N2 n2 => ⟨i16, fun N3 n3 => ⟨i16, fun N4 n4 => ⟨il, il, fun N5 n5 => ⟨il, ?_⟩⟩⟩⟩⟩⟩
      rw [zN_nat (by omega), e2] at n1
      rw [zN_nat (by omega), n1] at n2
      rw [zN_nat (by omega), n2] at n3
      rw [zN_nat (by omega), n3] at n4
      have z : N4 117 l' = zN (lvS S l') := by rw [n4, sd_s_o (by omega), sd_s_o (by omega), sd_s_o (by omega), sd_s_o (by omega)]; exact m5.1.2.1 l' a2
      rw [zN_nat (by omega), z, zN_succ, n4] at n5
      subst n5
      rw [zN_nat (by omega), sd_s_self, zN_pred]
      refine h0 _ e (MST.sch m5 (m5.1.lf a2 rfl a3 rfl) (fun j a b c => ?_) (fun c a b => ?_)) (fun c hcc => ?_) ?_
      · rw [sd_s_o (by omega), sd_s_o (by omega), sd_s_o (by omega), sd_s_o (by omega), sd_s_o (by omega)]
      · rw [sd_s_o (by omega), sd_s_o (by omega), sd_s_o (by omega), sd_s_o (by omega), sd_s_o (by omega)]
      · rw [sd_s_o (by omega), sd_s_o (by omega), sd_s_o (by omega), sd_s_o (by omega), sd_s_o (by omega)]; exact f5 c hcc
      · rw [sd_s_o (by omega), sd_s_o (by omega), sd_s_o (by omega), sd_s_o (by omega), sd_s_o (by omega)]; exact t5
    exact ⟨fun g => go 0 (by rw [decide_eq_false g]; rfl), fun g => go 1 (by rw [decide_eq_true g]; rfl)⟩
  have c65 : ∀ x6 s0 : Int32, x6 = bI (isLstB S l && lvS S l.toNatClampNeg == 4) → s0 = bI (goodLf S kd lo hi) → k_O_leaf_65 Q M l kd lo hi fl x6 s0 := by
    intro x6 s0 e6 e0
    subst e6; subst e0
    unfold k_O_leaf_65
    rw [hm.2.1.1, hm.2.1.2.1]
    refine ⟨fun h => bad 1 ?_ (by decide), fun h => ⟨fun g => bad 1 ?_ (by decide), fun g => ⟨fun k => m_isList hm.1 ⟨fun m => ⟨fun p => bad 3 ?_ (by decide), fun p => ⟨fun p2 => bad 3 ?_ (by decide), fun p2 => ⟨fun p3 => good ?_, fun p3 => bad 3 ?_ (by decide)⟩⟩⟩, fun m => bad 2 ?_ (by decide)⟩, fun k => bad 1 ?_ (by decide)⟩⟩⟩
    · unfold cLeaf; rw [bI_1.mp h]; rfl
    · unfold cLeaf; rw [bI_1.mp g]; simp
    all_goals unfold cLeaf; rw [bI_0.mp h, bI_0.mp g, Bool.or_false, if_neg (by decide)]
    · rw [bI_1.mp m] at k ⊢
      rw [if_neg (by decide), show (lvS S l.toNatClampNeg == 4) = false by simpa using bI_0.mp k, bI_0.mp p]; rfl
    · rw [bI_1.mp m] at k ⊢
      rw [if_neg (by decide), show (lvS S l.toNatClampNeg == 4) = false by simpa using bI_0.mp k, decide_eq_true p2]; simp
    · rw [bI_1.mp m] at k ⊢
      rw [if_neg (by decide), show (lvS S l.toNatClampNeg == 4) = false by simpa using bI_0.mp k, bI_1.mp p, decide_eq_false p2, decide_eq_false (fun q => i_nle.mpr q p3)]; rfl
    · rw [bI_1.mp m] at k ⊢
      rw [if_neg (by decide), show (lvS S l.toNatClampNeg == 4) = false by simpa using bI_0.mp k, decide_eq_true (i_nle.mp p3)]; simp
    · rw [bI_0.mp m]; rfl
    · have := bI_1.mp k
      rw [Bool.and_eq_true] at this
      rw [this.1, this.2]; rfl
  have c23 : ∀ x6 : Int32, x6 = bI (isLstB S l && lvS S l.toNatClampNeg == 4) → k_O_leaf_23 Q M l kd lo hi fl x6 := by
    intro x6 e6
    unfold k_O_leaf_23
    rw [hm.1.1]
    refine ⟨fun h => ⟨fun g => c65 x6 0 e6 ?_, fun g => ⟨fun k => c65 x6 0 e6 ?_, fun k => ⟨fun m => c65 x6 0 e6 ?_, fun m => c65 x6 1 e6 ?_⟩⟩⟩, fun h => ⟨fun g => c65 x6 0 e6 ?_, fun g => c65 x6 1 e6 ?_⟩⟩
    all_goals unfold goodLf
    · rw [if_neg h, decide_eq_false g]; rfl
    · rw [if_neg h, decide_eq_false (p := 0 < lo) (i_nlt.mpr k)]; simp [bI]
    · rw [if_neg h, decide_eq_false (p := lo < zN (nlS S)) (i_nlt.mpr m)]; simp [bI]
    · rw [if_neg h, decide_eq_true g, decide_eq_true (i_nle.mp k), decide_eq_true (i_nle.mp m)]; rfl
    · rw [if_pos h, decide_eq_false (fun q => i_nlt.mpr q g)]; rfl
    · rw [if_pos h, decide_eq_true (i_nlt.mp g)]; rfl
  refine m_isList hm.1 ⟨fun h => c23 0 (by rw [bI_0.mp h]; rfl), fun h => ?_⟩
  obtain ⟨l', a1, a2, rfl⟩ := lstB hk.1 (bI_1.mp h)
  have a3 := hk.1.2.1 l'
  rw [bI_1.mp h, zN_nat (by omega)] at c23
  rw [zN_nat (by omega), hm.1.2.1 l' a2, show (4 : Int32) = zN 4 from rfl, zN_eq (by omega) (by omega)]
  exact ⟨(zN_in (by omega)).mpr a2, fun g => c23 0 (by rw [show (lvS S l' == 4) = false by simpa using g]; rfl), fun g => c23 1 (by rw [g]; rfl)⟩
theorem okSch.lf {S : Sch} {l b : Nat} {kd lo hi : Int32} (h : okSch S) (hl : l < 4) (h4 : lvS S l < 4) (hb : b < 4) (hg : goodLf S kd lo hi = true) : okSch (addLf S l kd lo hi b) := by
  refine ⟨h.1, fun l' => ?_, fun i => ?_, h.2.2.2.1, h.2.2.2.2.1, fun l' f hl' hf hle => ?_⟩
  · show va_up (lvS S) l (lvS S l + 1) l' ≤ 4
    by_cases e : l' = l
    · subst e; rw [va_up_self]; omega
    · rw [va_up_ne _ _ e]; exact h.2.1 l'
  · show okF (va_up (lfS S) (4 * l + lvS S l) (newLf S (4 * l + lvS S l) kd lo hi b) i)
    by_cases e : i = 4 * l + lvS S l
    · subst e; rw [va_up_self]
      refine ⟨hb, fun hr => ⟨h.2.2.2.2.2 l (lvS S l) hl h4 (Nat.le_refl _), ?_⟩⟩
      have hk1 : kd = 1 := by simpa [newLf, lfR] using hr
      unfold goodLf at hg
      rw [hk1, if_neg (by decide)] at hg
      simp at hg
      obtain ⟨v, hv, rfl⟩ := zN_of (i_nlt.mpr (show (0 : Int32) ≤ lo by have := hg.1; rw [Int32.lt_iff_toInt_lt] at this; rw [Int32.le_iff_toInt_le]; omega))
      have := (zN_lt hv (by have := h.1.2; omega)).mp hg.2
      exact ⟨v, by have := h.1.2; omega, rfl⟩
    · rw [va_up_ne _ _ e]; exact h.2.2.1 i
  · have hle : va_up (lvS S) l (lvS S l + 1) l' ≤ f := hle
    show lfHs (va_up (lfS S) (4 * l + lvS S l) (newLf S (4 * l + lvS S l) kd lo hi b) (4 * l' + f)) = false
    by_cases e : l' = l
    · subst e
      rw [va_up_self] at hle
      rw [va_up_ne _ _ (by omega)]
      exact h.2.2.2.2.2 l' f hl' hf (by omega)
    · rw [va_up_ne _ _ e] at hle
      rw [va_up_ne _ _ (by omega)]
      exact h.2.2.2.2.2 l' f hl' hf hle
theorem okA.lf {S : Sch} {A : ASet} {l b : Nat} {kd lo hi : Int32} (h : okA S A) : okA (addLf S l kd lo hi b) A := by
  intro l' hl'
  refine ⟨(h l' hl').1, (h l' hl').2.1, fun r hr f hf hle => ?_, (h l' hl').2.2.2⟩
  have hle : va_up (lvS S) l (lvS S l + 1) l' ≤ f := hle
  refine (h l' hl').2.2.1 r hr f hf ?_
  by_cases e : l' = l
  · subst e; rw [va_up_self] at hle; omega
  · rw [va_up_ne _ _ e] at hle; exact hle
theorem J_leaf {t : Nat} {M : sdM} {l kd lo hi fl : Int32} (h : INV t M) : w_L_leaf M l kd lo hi fl (fun k M1 => w_O_leaf M1 l kd lo hi fl (fun b M2 => goodJ (t + 1) k b M2)) := by
  obtain ⟨S, rdy, off, chg, wts, hld, pg, w, bg, F, hc, hm, hk⟩ := h
  by_cases e : cLeaf S rdy off l kd lo hi fl = 0
  · obtain ⟨-, l', b, a1, a2, rfl, a3, a4, rfl, a5⟩ := cLeaf_0 hk.1 e
    exact joinJ (fun Q a b => C_leaf hc hk a b) (fun M1 d Q a b => O_leaf d hk a b) hm (fun _ _ d f => d.fc f) (fun _ _ c f => c.fm f) (fun _ _ c f => c.fm f) (fun M' c d => ⟨_, _, _, _, _, _, _, _, _, _, c, d, hk.mono⟩) (fun M' c d => ⟨_, _, _, _, _, _, _, _, _, _, c, d, hk.sch (by rw [zN_nat (by omega), zN_nat (by omega)]; exact hk.1.lf a2 a3 a4 a5) (fun A hA => hA.lf)⟩)
  · exact joinJ (C' := fun _ => False) (D' := fun _ => False) (r := 0) (fun Q a b => C_leaf hc hk a (fun M' h => (e h).elim)) (fun M1 d Q a b => O_leaf d hk a (fun M' h => (e h).elim)) hm (fun _ _ d f => d.fc f) (fun _ _ c f => c.fm f) (fun _ _ c f => c) (fun M' c d => ⟨_, _, _, _, _, _, _, _, _, _, c, d, hk.mono⟩) (fun M' c d => c.elim)
theorem joinV {M : sdM} {W : (Int32 → sdM → Prop) → Prop} {V : sdM → (sdM → Prop) → Prop} {code : Int32} {C D C' D' I : sdM → Prop}
    (hC : ∀ Q : Int32 → sdM → Prop, (∀ M', code ≠ 0 → C M' → frC M M' → Q code M') → (∀ M', code = 0 → C' M' → frC M M' → Q 0 M') → W Q)
    (hD : ∀ M1, D M1 → ∀ Q : sdM → Prop, (∀ M', code ≠ 0 → D M' → frM M1 M' → M' 116 0 = code → Q M') → (∀ M', code = 0 → D' M' → frM M1 M' → M' 116 0 = 0 → Q M') → V M1 Q)
    (d0 : D M) (fD : ∀ M1 M2, D M1 → frC M1 M2 → D M2) (fC : ∀ M1 M2, C M1 → frM M1 M2 → C M2) (fC' : ∀ M1 M2, C' M1 → frM M1 M2 → C' M2)
    (hI : ∀ M, C M → D M → I M) (hI' : ∀ M, C' M → D' M → I M) :
    W (fun k M1 => V M1 (fun M2 => M2 116 0 = k ∧ I M2)) := by
  refine hC _ (fun M1 hc c1 f1 => ?_) (fun M1 hc c1 f1 => ?_)
  · exact hD M1 (fD _ _ d0 f1) _ (fun M2 _ d2 f2 ht => ⟨ht, hI M2 (fC _ _ c1 f2) d2⟩) (fun M2 h _ _ _ => (hc h).elim)
  · exact hD M1 (fD _ _ d0 f1) _ (fun M2 h _ _ _ => (h hc).elim) (fun M2 _ d2 f2 ht => ⟨ht, hI' M2 (fC' _ _ c1 f2) d2⟩)
def takesB (x : Lf) (v : Int32) : Bool := if lfR x then (decide (1 ≤ v) && decide (v ≤ 100)) else (decide (lfLo x ≤ v) && decide (v ≤ lfHi x))
theorem p_takes {o : Nat} {M : sdM} {x : Lf} {v : Int32} {Q : Int32 → sdM → Prop} (hx : leafC M o x) (hq : Q (bI (takesB x v)) M) : w_F_takes o M v Q := by
  unfold takesB at hq
  unfold w_F_takes
  rw [hx.1, hx.2.1, hx.2.2.1]
  refine ⟨fun h => ⟨fun g => ⟨Or.inl rfl, ?_⟩, fun g => ⟨fun k => ⟨Or.inl rfl, ?_⟩, fun k => ⟨Or.inr rfl, ?_⟩⟩⟩, fun h => ⟨fun g => ⟨Or.inl rfl, ?_⟩, fun g => ⟨fun k => ⟨Or.inl rfl, ?_⟩, fun k => ⟨Or.inr rfl, ?_⟩⟩⟩⟩
  · rw [bI_0.mp h, if_neg (by decide), decide_eq_false (p := lfLo x ≤ v) (i_nle.mpr g)] at hq; exact hq
  · rw [bI_0.mp h, if_neg (by decide), decide_eq_false (p := v ≤ lfHi x) (i_nle.mpr k), Bool.and_false] at hq; exact hq
  · rw [bI_0.mp h, if_neg (by decide), decide_eq_true (i_nlt.mp g), decide_eq_true (i_nlt.mp k)] at hq; exact hq
  · rw [bI_1.mp h, if_pos rfl, decide_eq_false (p := 1 ≤ v) (i_nle.mpr g)] at hq; exact hq
  · rw [bI_1.mp h, if_pos rfl, decide_eq_false (p := v ≤ 100) (i_nle.mpr k), Bool.and_false] at hq; exact hq
  · rw [bI_1.mp h, if_pos rfl, decide_eq_true (i_nlt.mp g), decide_eq_true (i_nlt.mp k)] at hq; exact hq
def cStd (S : Sch) (rdy off : Bool) (l f v : Int32) : Int32 := if off || rdy then 1 else if !isLfB S l f then 2 else if lfR (lfS S (4 * l.toNatClampNeg + f.toNatClampNeg)) || !takesB (lfS S (4 * l.toNatClampNeg + f.toNatClampNeg)) v then 3 else 0
def stLf (x : Lf) (v : Int32) : Lf := (lfR x, lfLo x, lfHi x, lfFl x, true, v)
def setSt (S : Sch) (i : Nat) (v : Int32) : Sch := (nlS S, lvS S, va_up (lfS S) i (stLf (lfS S i) v), S.2.2.2)
theorem cStd_0 {S : Sch} {rdy off : Bool} {l f v : Int32} (hk : okSch S) (h : cStd S rdy off l f v = 0) : ∃ l' f', l' < nlS S ∧ l' < 4 ∧ f' < lvS S l' ∧ f' < 4 ∧ l = zN l' ∧ f = zN f' ∧ lfR (lfS S (4 * l' + f')) = false := by
  unfold cStd at h
  split at h
  · cases h
  · split at h
    · cases h
    · rename_i h2
      split at h
      · cases h
      · rename_i h3
        have h2 : isLfB S l f = true := by simpa using h2
        obtain ⟨l', f', a1, a2, a3, a4, rfl, rfl⟩ := lfB hk h2
        rw [zN_nat (by omega), zN_nat (by omega)] at h3
        simp at h3
        exact ⟨l', f', a1, a2, a3, a4, rfl, rfl, h3.1⟩
theorem C_standard {S : Sch} {rdy off : Bool} {chg wts : Nat} {hld : Int32} {pg : Nat} {w : Flt} {bg : Nat → Bool} {F : Nat → ASet} {M : sdM} {l f v : Int32} {t : Nat} (hc : CST M S rdy off chg wts hld pg w bg F) (hk : OKS t S chg wts pg F) {Q : Int32 → sdM → Prop} (h1 : ∀ M', cStd S rdy off l f v ≠ 0 → CST M' S rdy off chg wts hld pg w bg F → frC M M' → Q (cStd S rdy off l f v) M') (h0 : ∀ M', cStd S rdy off l f v = 0 → CST M' (setSt S (4 * l.toNatClampNeg + f.toNatClampNeg) v) rdy off chg wts hld pg w bg F → frC M M' → Q 0 M') : w_L_standard M l f v Q := by
  have bad : ∀ c : Int32, cStd S rdy off l f v = c → c ≠ 0 → Q c M := fun c e hne => by
    rw [e] at h1; exact h1 M hne hc (frC.rf _)
  refine p_opn hc.2.1.1 hc.2.1.2.1 (fun h => Or.inl ⟨rfl, bad 1 ?_ (by decide)⟩) (fun h => p_hasLeaf hc.1 hk.1 ⟨fun g => ?_, fun g => Or.inr (Or.inl ⟨rfl, bad 2 ?_ (by decide)⟩)⟩)
  · unfold cStd; rw [h]; rfl
  · have g := bI_1.mp g
    obtain ⟨l', f', a1, a2, a3, a4, rfl, rfl⟩ := lfB hk.1 g
    rw [zN_nat (by omega), zN_nat (by omega)] at h0
    have c3 : cStd S rdy off (zN l') (zN f') v = if lfR (lfS S (4 * l' + f')) || !takesB (lfS S (4 * l' + f')) v then 3 else 0 := by
      unfold cStd; rw [h, g, zN_nat (by omega), zN_nat (by omega)]; rfl
    have hx := hc.1.2.2.1 (4 * l' + f') (by omega)
    refine p_leafAt a2 a4 ?_
    show (¬ M (5 + (4 * l' + f')) 0 = 0 → _) ∧ _
    rw [hx.1]
    refine ⟨fun k => Or.inr (Or.inr ⟨rfl, bad 3 ?_ (by decide)⟩), fun k => p_takes hx ⟨fun m => ⟨Or.inr rfl, fun M1 e1 M2 e2 => ?_⟩, fun m => Or.inr (Or.inr ⟨rfl, bad 3 ?_ (by decide)⟩)⟩⟩
    · rw [c3, bI_1.mp k]; rfl
    · rw [e1] at e2
      subst e2
      have e0 : cStd S rdy off (zN l') (zN f') v = 0 := by rw [c3, bI_0.mp k, bI_1.mp m]; rfl
      refine h0 _ e0 (CST.sch hc ⟨?_, fun l9 hl9 => ?_, fun i hi => ?_, ?_, fun r hr => ?_⟩ ?_ (fun c h9 => ?_)) (((frC.rf M).s (by omega)).s (by omega))
      · rw [sd_s_o (by omega), sd_s_o (by omega)]; exact hc.1.1
      · rw [sd_s_o (by omega), sd_s_o (by omega)]; exact hc.1.2.1 l9 hl9
      · show leafC _ _ (va_up (lfS S) (4 * l' + f') (stLf (lfS S (4 * l' + f')) v) i)
        by_cases e : i = 4 * l' + f'
        · subst e
          rw [va_up_self]
          refine ⟨?_, ?_, ?_, ?_, ?_, ?_, ?_⟩
          · rw [sd_s_ne (by omega), sd_s_ne (by omega)]; exact hx.1
          · rw [sd_s_ne (by omega), sd_s_ne (by omega)]; exact hx.2.1
          · rw [sd_s_ne (by omega), sd_s_ne (by omega)]; exact hx.2.2.1
          · rw [sd_s_ne (by omega), sd_s_ne (by omega)]; exact hx.2.2.2.1
          · rw [sd_s_ne (by omega), sd_s_ne (by omega)]; exact hx.2.2.2.2.1
          · rw [sd_s_ne (by omega), sd_s_self]; rfl
          · rw [sd_s_self]; rfl
        · rw [va_up_ne _ _ e]
          unfold leafC
          rw [sd_s_o (by omega), sd_s_o (by omega)]; exact hc.1.2.2.1 i hi
      · rw [sd_s_o (by omega), sd_s_o (by omega)]; exact hc.1.2.2.2.1
      · unfold ruleC; rw [sd_s_o (by omega), sd_s_o (by omega)]; exact hc.1.2.2.2.2 r hr
      · rw [sd_s_o (by omega), sd_s_o (by omega)]
      · rw [sd_s_o (by omega), sd_s_o (by omega)]
    · rw [c3, bI_0.mp m]; simp
  · unfold cStd; rw [h, bI_0.mp g]; rfl
theorem O_standard {S : Sch} {rdy off : Bool} {chg wts : Nat} {hld : Int32} {pg : Nat} {w : Flt} {bg : Nat → Bool} {F : Nat → ASet} {M : sdM} {l f v : Int32} {t : Nat} (hm : MST M S rdy off chg wts hld pg w bg F) (hk : OKS t S chg wts pg F) {Q : sdM → Prop} (h1 : ∀ M', cStd S rdy off l f v ≠ 0 → MST M' S rdy off chg wts hld pg w bg F → frM M M' → M' 116 0 = cStd S rdy off l f v → Q M') (h0 : ∀ M', cStd S rdy off l f v = 0 → MST M' (setSt S (4 * l.toNatClampNeg + f.toNatClampNeg) v) rdy off chg wts hld pg w bg F → frM M M' → M' 116 0 = 0 → Q M') : w_O_standard M l f v Q := by
  have bad : ∀ (c x4 : Int32), cStd S rdy off l f v = c → c ≠ 0 → k_O_standard_101 Q M v x4 c := by
    intro c x4 he hne M5 e5
    subst e5
    rw [sd_s_self]
    rw [he] at h1
    exact ⟨fun _ => h1 _ hne hm.thr ((frM.rf M).s (by omega)) (sd_s_self _ _ _ _), fun h => (hne h).elim⟩
  -- the place that is looked at, and whether the value is good there
  have c57 : ∀ (i : Nat) (s0 : Int32), i < 16 → s0 = bI (!lfR (lfS S i) && takesB (lfS S i) v) → (isLfB S l f = true → i = 4 * l.toNatClampNeg + f.toNatClampNeg) → k_O_standard_57 Q M l f v (zN i) s0 := by
    intro i s0 hi e0 hL
    unfold k_O_standard_57
    rw [hm.2.1.1, hm.2.1.2.1]
    refine ⟨fun h => bad 1 _ ?_ (by decide), fun h => ⟨fun g => m_isLeaf hm.1 hk.1 ⟨fun k => ⟨fun m => bad 3 _ ?_ (by decide), fun m => ?_⟩, fun k => bad 2 _ ?_ (by decide)⟩, fun g => bad 1 _ ?_ (by decide)⟩⟩
    · unfold cStd; rw [bI_1.mp h]; rfl
    · have k := bI_1.mp k
      rw [hL k] at e0
      unfold cStd; rw [bI_0.mp h, bI_0.mp g, k]
      rw [e0] at m
      have m := bI_0.mp m
      rw [Bool.and_eq_false_iff] at m
      rcases m with m | m
      · simp at m; rw [m]; rfl
      · rw [m]; simp
    · have k := bI_1.mp k
      have e9 : cStd S rdy off l f v = 0 := by
        unfold cStd; rw [bI_0.mp h, bI_0.mp g, k]
        rw [e0, hL k] at m
        have m := bI_1.mp m
        rw [Bool.and_eq_true] at m
        simp at m
        rw [m.1, m.2]; rfl
      rw [← hL k] at h0
      intro M5 e5
      have m5 : MST M5 S rdy off chg wts hld pg w bg F := by rw [e5]; exact hm.thr
      have f5 : frM M M5 := by rw [e5]; exact (frM.rf M).s (by omega)
      have t5 : M5 116 0 = 0 := by rw [e5, sd_s_self]
      rw [t5]
      have i16 : vp_in (zN i) 16 := (zN_in (by omega)).mpr hi
      refine ⟨fun h => absurd rfl h, fun _ => ⟨i16, Or.inr rfl, fun N1 n1 => ⟨i16, fun N2 n2 => ?_⟩⟩⟩
      rw [zN_nat (by omega)] at n1 n2
      rw [n1] at n2
      subst n2
      have hx := m5.1.2.2.1 i hi
      refine h0 _ e9 (MST.sch m5 ⟨?_, fun l9 hl9 => ?_, fun i' hi' => ?_, ?_, fun r hr => ?_⟩ (fun j a b c => ?_) (fun c a b => ?_)) (fun c hcc => ?_) ?_
      · rw [sd_s_o (by omega), sd_s_o (by omega)]; exact m5.1.1
      · rw [sd_s_o (by omega), sd_s_o (by omega)]; exact m5.1.2.1 l9 hl9
      · show leafM _ _ (va_up (lfS S) i (stLf (lfS S i) v) i')
        have hy := m5.1.2.2.1 i' hi'
        by_cases e : i' = i
        · subst e
          rw [va_up_self]
          refine ⟨?_, ?_, ?_, ?_, ?_, ?_⟩
          · rw [sd_s_o (by omega), sd_s_o (by omega)]; exact hx.1
          · rw [sd_s_o (by omega), sd_s_o (by omega)]; exact hx.2.1
          · rw [sd_s_o (by omega), sd_s_o (by omega)]; exact hx.2.2.1
          · rw [sd_s_o (by omega), sd_s_o (by omega)]; exact hx.2.2.2.1
          · rw [sd_s_o (by omega), sd_s_self]; rfl
          · rw [sd_s_self]; rfl
        · rw [va_up_ne _ _ e]
          refine ⟨?_, ?_, ?_, ?_, ?_, ?_⟩
          · rw [sd_s_o (by omega), sd_s_o (by omega)]; exact hy.1
          · rw [sd_s_o (by omega), sd_s_o (by omega)]; exact hy.2.1
          · rw [sd_s_o (by omega), sd_s_o (by omega)]; exact hy.2.2.1
          · rw [sd_s_o (by omega), sd_s_o (by omega)]; exact hy.2.2.2.1
          · rw [sd_s_o (by omega), sd_s_ne e]; exact hy.2.2.2.2.1
          · rw [sd_s_ne e, sd_s_o (by omega)]; exact hy.2.2.2.2.2
      · rw [sd_s_o (by omega), sd_s_o (by omega)]; exact m5.1.2.2.2.1
      · have := m5.1.2.2.2.2 r hr
        refine ⟨?_, ?_, ?_, ?_, ?_⟩
        · rw [sd_s_o (by omega), sd_s_o (by omega)]; exact this.1
        · rw [sd_s_o (by omega), sd_s_o (by omega)]; exact this.2.1
        · rw [sd_s_o (by omega), sd_s_o (by omega)]; exact this.2.2.1
        · rw [sd_s_o (by omega), sd_s_o (by omega)]; exact this.2.2.2.1
        · rw [sd_s_o (by omega), sd_s_o (by omega)]; exact this.2.2.2.2
      · rw [sd_s_o (by omega), sd_s_o (by omega)]
      · rw [sd_s_o (by omega), sd_s_o (by omega)]
      · rw [sd_s_o (by omega), sd_s_o (by omega)]; exact f5 c hcc
      · rw [sd_s_o (by omega), sd_s_o (by omega)]; exact t5
    · unfold cStd; rw [bI_0.mp h, bI_0.mp g, bI_0.mp k]; rfl
    · unfold cStd; rw [bI_1.mp g]; simp
  have c18 : ∀ i : Nat, i < 16 → (isLfB S l f = true → i = 4 * l.toNatClampNeg + f.toNatClampNeg) → k_O_standard_18 Q M l f v (zN i) := by
    intro i hi hL
    have hx := hm.1.2.2.1 i hi
    have i16 : vp_in (zN i) 16 := (zN_in (by omega)).mpr hi
    unfold k_O_standard_18
    rw [zN_nat (by omega), hx.1, hx.2.1, hx.2.2.1]
    refine ⟨i16, fun h => c57 i 0 hi ?_ hL, fun h => ⟨i16, fun g => c57 i 0 hi ?_ hL, fun g => ⟨i16, fun k => c57 i 0 hi ?_ hL, fun k => c57 i 1 hi ?_ hL⟩⟩⟩
    · rw [bI_1.mp h]; rfl
    · unfold takesB; rw [bI_0.mp h, if_neg (by decide), decide_eq_false (p := lfLo (lfS S i) ≤ v) (i_nle.mpr g)]; rfl
    · unfold takesB; rw [bI_0.mp h, if_neg (by decide), decide_eq_false (p := v ≤ lfHi (lfS S i)) (i_nle.mpr k)]; simp [bI]
    · unfold takesB; rw [bI_0.mp h, if_neg (by decide), decide_eq_true (i_nlt.mp g), decide_eq_true (i_nlt.mp k)]; rfl
  refine m_isLeaf hm.1 hk.1 ⟨fun h => c18 0 (by omega) (fun g => by rw [bI_0.mp h] at g; cases g), fun h => ?_⟩
  obtain ⟨l', f', a1, a2, a3, a4, rfl, rfl⟩ := lfB hk.1 (bI_1.mp h)
  rw [zN4]
  exact c18 _ (by omega) (fun _ => by rw [zN_nat (by omega), zN_nat (by omega)])
theorem okSch.st {S : Sch} {l f : Nat} {v : Int32} (h : okSch S) (hf : f < lvS S l) (hr : lfR (lfS S (4 * l + f)) = false) (hl : l < 4) : okSch (setSt S (4 * l + f) v) := by
  have h4 := h.2.1 l
  refine ⟨h.1, h.2.1, fun i => ?_, h.2.2.2.1, h.2.2.2.2.1, fun l' f' hl' hf' hle => ?_⟩
  · show okF (va_up (lfS S) (4 * l + f) (stLf (lfS S (4 * l + f)) v) i)
    by_cases e : i = 4 * l + f
    · subst e; rw [va_up_self]
      refine ⟨(h.2.2.1 _).1, fun q => ?_⟩
      have q : lfR (lfS S (4 * l + f)) = true := q
      rw [hr] at q; cases q
    · rw [va_up_ne _ _ e]; exact h.2.2.1 i
  · have hle : lvS S l' ≤ f' := hle
    show lfHs (va_up (lfS S) (4 * l + f) (stLf (lfS S (4 * l + f)) v) (4 * l' + f')) = false
    by_cases e : 4 * l' + f' = 4 * l + f
    · have : l' = l := by omega
      subst this; omega
    · rw [va_up_ne _ _ e]; exact h.2.2.2.2.2 l' f' hl' hf' hle
theorem J_standard {t : Nat} {M : sdM} {l f v : Int32} (h : INV t M) : w_L_standard M l f v (fun k M1 => w_O_standard M1 l f v (fun M2 => M2 116 0 = k ∧ INV (t + 1) M2)) := by
  obtain ⟨S, rdy, off, chg, wts, hld, pg, w, bg, F, hc, hm, hk⟩ := h
  by_cases e : cStd S rdy off l f v = 0
  · obtain ⟨l', f', a1, a2, a3, a4, rfl, rfl, a5⟩ := cStd_0 hk.1 e
    exact joinV (fun Q a b => C_standard hc hk a b) (fun M1 d Q a b => O_standard d hk a b) hm (fun _ _ d f => d.fc f) (fun _ _ c f => c.fm f) (fun _ _ c f => c.fm f) (fun M' c d => ⟨_, _, _, _, _, _, _, _, _, _, c, d, hk.mono⟩) (fun M' c d => ⟨_, _, _, _, _, _, _, _, _, _, c, d, hk.sch (by rw [zN_nat (by omega), zN_nat (by omega)]; exact hk.1.st a3 a5 a2) (fun A hA => hA)⟩)
  · exact joinV (C' := fun _ => False) (D' := fun _ => False) (fun Q a b => C_standard hc hk a (fun M' h => (e h).elim)) (fun M1 d Q a b => O_standard d hk a (fun M' h => (e h).elim)) hm (fun _ _ d f => d.fc f) (fun _ _ c f => c.fm f) (fun _ _ c f => c) (fun M' c d => ⟨_, _, _, _, _, _, _, _, _, _, c, d, hk.mono⟩) (fun M' c d => c.elim)
def cRule (S : Sch) (rdy off : Bool) (l a b : Int32) : Int32 := if off || rdy then 1 else if nrS S == 4 then 1 else if !isLfB S l a then 2 else if !isLfB S l b then 2 else 0
def addRu (S : Sch) (q : Ru) : Sch := (nlS S, lvS S, lfS S, nrS S + 1, va_up (ruS S) (nrS S) q)
theorem cRule_0 {S : Sch} {rdy off : Bool} {l a b : Int32} (hk : okSch S) (h : cRule S rdy off l a b = 0) : nrS S < 4 ∧ ∃ l' a' b', l' < 4 ∧ a' < 4 ∧ b' < 4 ∧ l = zN l' ∧ a = zN a' ∧ b = zN b' := by
  unfold cRule at h
  have := hk.2.2.2.1
  split at h
  · cases h
  · split at h
    · cases h
    · rename_i h2
      split at h
      · cases h
      · rename_i h3
        split at h
        · cases h
        · rename_i h4
          have h3 : isLfB S l a = true := by simpa using h3
          have h4 : isLfB S l b = true := by simpa using h4
          obtain ⟨l', a', _, a2, _, a4, rfl, rfl⟩ := lfB hk h3
          obtain ⟨l9, b', _, _, _, b4, e9, rfl⟩ := lfB hk h4
          simp at h2
          exact ⟨by omega, l', a', b', a2, a4, b4, rfl, rfl, rfl⟩
theorem C_rule {S : Sch} {rdy off : Bool} {chg wts : Nat} {hld : Int32} {pg : Nat} {w : Flt} {bg : Nat → Bool} {F : Nat → ASet} {M : sdM} {l a v b : Int32} {th : Bool} {t : Nat} (hc : CST M S rdy off chg wts hld pg w bg F) (hk : OKS t S chg wts pg F) {Q : Int32 → sdM → Prop} (h1 : ∀ M', cRule S rdy off l a b ≠ 0 → CST M' S rdy off chg wts hld pg w bg F → frC M M' → Q (cRule S rdy off l a b) M') (h0 : ∀ M', cRule S rdy off l a b = 0 → CST M' (addRu S (l.toNatClampNeg, a.toNatClampNeg, v, b.toNatClampNeg, th)) rdy off chg wts hld pg w bg F → frC M M' → M' 134 0 = zN (nrS S) → Q 0 M') : w_L_rule M l a v b (bI th) Q := by
  have bad : ∀ c : Int32, cRule S rdy off l a b = c → c ≠ 0 → Q c M := fun c e hne => by
    rw [e] at h1; exact h1 M hne hc (frC.rf _)
  have n4 := hk.1.2.2.2.1
  refine p_opn hc.2.1.1 hc.2.1.2.1 (fun h => Or.inl ⟨rfl, bad 1 ?_ (by decide)⟩) (fun h => ?_)
  · unfold cRule; rw [h]; rfl
  · show (M 1 4 < 4 → _) ∧ _
    rw [hc.1.2.2.2.1, show (4 : Int32) = zN 4 from rfl, zN_lt (by omega) (by omega)]
    refine ⟨fun g => p_hasLeaf hc.1 hk.1 ⟨fun k => p_hasLeaf hc.1 hk.1 ⟨fun m => ?_, fun m => Or.inr ⟨rfl, bad 2 ?_ (by decide)⟩⟩, fun k => Or.inr ⟨rfl, bad 2 ?_ (by decide)⟩⟩, fun g => Or.inl ⟨rfl, bad 1 ?_ (by decide)⟩⟩
    · have e0 : cRule S rdy off l a b = 0 := by unfold cRule; rw [h, show (nrS S == 4) = false by simp; omega, bI_1.mp k, bI_1.mp m]; rfl
      obtain ⟨-, l', a', b', a2, a4, b4, rfl, rfl, rfl⟩ := cRule_0 hk.1 e0
      rw [zN_nat (by omega), zN_nat (by omega), zN_nat (by omega)] at h0
      show vp_in (M 1 4) 4 ∧ _
      rw [hc.1.2.2.2.1, zN_nat (by omega)]
      refine ⟨(zN_in (by omega)).mpr g, fun N1 n1 N2 n2 N3 n3 N4 n4 => ⟨bI_B _, fun N5 n5 N6 n6 N7 n7 => ?_⟩⟩
      rw [n1] at n2
      rw [n2] at n3
      rw [n3] at n4
      rw [n4] at n5
      have z : N5 1 4 = zN (nrS S) := by rw [n5, sd_s_o (by omega), sd_s_o (by omega), sd_s_o (by omega), sd_s_o (by omega), sd_s_o (by omega)]; exact hc.1.2.2.2.1
      rw [z, zN_succ, n5] at n6
      rw [n6, sd_s_self, zN_pred] at n7
      subst n7
      refine h0 _ e0 (CST.sch hc ⟨?_, fun l9 hl9 => ?_, fun i hi => ?_, ?_, fun r hr => ?_⟩ ?_ (fun c h9 => ?_)) (fun c x y => ?_) (sd_s_self _ _ _ _)
      · rw [sd_s_o (by omega), sd_s_ne (by omega), sd_s_o (by omega), sd_s_o (by omega), sd_s_o (by omega), sd_s_o (by omega), sd_s_o (by omega)]; exact hc.1.1
      · rw [sd_s_o (by omega), sd_s_o (by omega), sd_s_o (by omega), sd_s_o (by omega), sd_s_o (by omega), sd_s_o (by omega), sd_s_o (by omega)]; exact hc.1.2.1 l9 hl9
      · unfold leafC
        rw [sd_s_o (by omega), sd_s_o (by omega), sd_s_o (by omega), sd_s_o (by omega), sd_s_o (by omega), sd_s_o (by omega), sd_s_o (by omega)]; exact hc.1.2.2.1 i hi
      · rw [sd_s_o (by omega), sd_s_self]; rfl
      · show ruleC _ _ (va_up (ruS S) (nrS S) _ r)
        by_cases e : r = nrS S
        · subst e
          rw [va_up_self]
          refine ⟨?_, ?_, ?_, ?_, ?_⟩
          · rw [sd_s_o (by omega), sd_s_o (by omega), sd_s_ne (by omega), sd_s_ne (by omega), sd_s_ne (by omega), sd_s_ne (by omega), sd_s_self]; rfl
          · rw [sd_s_o (by omega), sd_s_o (by omega), sd_s_ne (by omega), sd_s_ne (by omega), sd_s_ne (by omega), sd_s_self]; rfl
          · rw [sd_s_o (by omega), sd_s_o (by omega), sd_s_ne (by omega), sd_s_ne (by omega), sd_s_self]; rfl
          · rw [sd_s_o (by omega), sd_s_o (by omega), sd_s_ne (by omega), sd_s_self]; rfl
          · rw [sd_s_o (by omega), sd_s_o (by omega), sd_s_self]; rfl
        · rw [va_up_ne _ _ e]
          unfold ruleC
          rw [sd_s_o (by omega), sd_s_o (by omega), sd_s_o (by omega), sd_s_o (by omega), sd_s_o (by omega), sd_s_o (by omega), sd_s_o (by omega)]; exact hc.1.2.2.2.2 r hr
      · rw [sd_s_o (by omega), sd_s_ne (by omega), sd_s_o (by omega), sd_s_o (by omega), sd_s_o (by omega), sd_s_o (by omega), sd_s_o (by omega)]
      · rw [sd_s_o (by omega), sd_s_o (by omega), sd_s_o (by omega), sd_s_o (by omega), sd_s_o (by omega), sd_s_o (by omega), sd_s_o (by omega)]
      · rw [sd_s_o (by omega), sd_s_o (by omega), sd_s_o (by omega), sd_s_o (by omega), sd_s_o (by omega), sd_s_o (by omega), sd_s_o (by omega)]
    · unfold cRule; rw [h, show (nrS S == 4) = false by simp; omega, bI_1.mp k, bI_0.mp m]; rfl
    · unfold cRule; rw [h, show (nrS S == 4) = false by simp; omega, bI_0.mp k]; rfl
    · unfold cRule; rw [h, show (nrS S == 4) = true by simp; omega]; rfl
theorem O_rule {S : Sch} {rdy off : Bool} {chg wts : Nat} {hld : Int32} {pg : Nat} {w : Flt} {bg : Nat → Bool} {F : Nat → ASet} {M : sdM} {l a v b : Int32} {th : Bool} {t : Nat} (hm : MST M S rdy off chg wts hld pg w bg F) (hk : OKS t S chg wts pg F) {Q : Int32 → sdM → Prop} (h1 : ∀ M' r, cRule S rdy off l a b ≠ 0 → MST M' S rdy off chg wts hld pg w bg F → frM M M' → M' 116 0 = cRule S rdy off l a b → Q r M') (h0 : ∀ M', cRule S rdy off l a b = 0 → MST M' (addRu S (l.toNatClampNeg, a.toNatClampNeg, v, b.toNatClampNeg, th)) rdy off chg wts hld pg w bg F → frM M M' → M' 116 0 = 0 → Q (zN (nrS S)) M') : w_O_rule M l a v b (bI th) Q := by
  have n4 := hk.1.2.2.2.1
  have bad : ∀ c : Int32, cRule S rdy off l a b = c → ¬ c ≤ 0 → k_O_rule_51 Q M l a v b (bI th) c := by
    intro e he hne M5 e5
    subst e5
    rw [sd_s_self]
    rw [he] at h1
    exact ⟨fun h => absurd h hne, fun _ => h1 _ _ (fun h => hne (by rw [h]; decide)) hm.thr ((frM.rf M).s (by omega)) (sd_s_self _ _ _ _)⟩
  unfold w_O_rule
  rw [hm.2.1.1, hm.2.1.2.1, hm.1.2.2.2.1, show (4 : Int32) = zN 4 from rfl, zN_eq (by omega) (by omega)]
  refine ⟨fun h => bad 1 ?_ (by decide), fun h => ⟨fun g => bad 1 ?_ (by decide), fun g => ⟨fun k => m_isLeaf hm.1 hk.1 ⟨fun m => bad 2 ?_ (by decide), fun m => m_isLeaf hm.1 hk.1 ⟨fun p => ?_, fun p => bad 2 ?_ (by decide)⟩⟩, fun k => bad 1 ?_ (by decide)⟩⟩⟩
  · unfold cRule; rw [bI_1.mp h]; rfl
  · unfold cRule; rw [bI_1.mp g]; simp
  · unfold cRule; rw [bI_0.mp h, bI_0.mp g, show (nrS S == 4) = false by simpa using k, bI_0.mp m]; rfl
  · have e0 : cRule S rdy off l a b = 0 := by unfold cRule; rw [bI_0.mp h, bI_0.mp g, show (nrS S == 4) = false by simpa using k, bI_1.mp m, bI_1.mp p]; rfl
    obtain ⟨g4, l', a', b', a2, a4, b4, rfl, rfl, rfl⟩ := cRule_0 hk.1 e0
    rw [zN_nat (by omega), zN_nat (by omega), zN_nat (by omega)] at h0
    intro M5 e5
    have m5 : MST M5 S rdy off chg wts hld pg w bg F := by rw [e5]; exact hm.thr
    have f5 : frM M M5 := by rw [e5]; exact (frM.rf M).s (by omega)
    have t5 : M5 116 0 = 0 := by rw [e5, sd_s_self]
    have z5 : M5 116 10 = zN (nrS S) := m5.1.2.2.2.1
    have vi : vp_in (zN (nrS S)) 4 := (zN_in (by omega)).mpr g4
    rw [t5]
    refine ⟨fun _ => ?_, fun h => absurd (by decide) h⟩
    rw [z5]
    refine ⟨vi, fun N1 n1 => ?_⟩
    rw [zN_nat (by omega)] at n1
    have z1 : N1 116 = M5 116 := by rw [n1, sd_s_o (by omega)]
    rw [z1, z5]
    refine ⟨vi, fun N2 n2 => ?_⟩
    rw [zN_nat (by omega)] at n2
    have z2 : N2 116 = M5 116 := by rw [n2, sd_s_o (by omega), z1]
    rw [z2, z5]
    refine ⟨vi, fun N3 n3 => ?_⟩
    rw [zN_nat (by omega)] at n3
    have z3 : N3 116 = M5 116 := by rw [n3, sd_s_o (by omega), z2]
    rw [z3, z5]
    refine ⟨vi, fun N4 n4' => ?_⟩
    rw [zN_nat (by omega)] at n4'
    have z4 : N4 116 = M5 116 := by rw [n4', sd_s_o (by omega), z3]
    rw [z4, z5]
    refine ⟨vi, bI_B _, fun N5 n5 N6 n6 => ?_⟩
    rw [zN_nat (by omega)] at n5
    have z5' : N5 116 = M5 116 := by rw [n5, sd_s_o (by omega), z4]
    rw [z5', z5, zN_succ] at n6
    have r6 : N6 116 10 = zN (nrS S + 1) := by rw [n6, sd_s_self]
    rw [r6, zN_pred]
    have oth : ∀ c, c < 124 ∨ 128 < c → c ≠ 116 → N6 c = M5 c := fun c h9 hne => by rw [n6, sd_s_o hne, n5, sd_s_o (by omega), n4', sd_s_o (by omega), n3, sd_s_o (by omega), n2, sd_s_o (by omega), n1, sd_s_o (by omega)]
    have o116 : ∀ j, j ≠ 10 → N6 116 j = M5 116 j := fun j hj => by rw [n6, sd_s_ne hj, z5']
    have c124 : N6 124 = sd_s M5 124 (nrS S) (zN l') 124 := by rw [n6, sd_s_o (by omega), n5, sd_s_o (by omega), n4', sd_s_o (by omega), n3, sd_s_o (by omega), n2, sd_s_o (by omega), n1]
    have c125 : N6 125 = sd_s M5 125 (nrS S) (zN a') 125 := by
      have : N1 125 = M5 125 := by rw [n1, sd_s_o (by omega)]
      rw [n6, sd_s_o (by omega), n5, sd_s_o (by omega), n4', sd_s_o (by omega), n3, sd_s_o (by omega), n2]
      unfold sd_s; rw [va_up_self, va_up_self, this]
    have c126 : N6 126 = sd_s M5 126 (nrS S) v 126 := by
      have : N2 126 = M5 126 := by rw [n2, sd_s_o (by omega), n1, sd_s_o (by omega)]
      rw [n6, sd_s_o (by omega), n5, sd_s_o (by omega), n4', sd_s_o (by omega), n3]
      unfold sd_s; rw [va_up_self, va_up_self, this]
    have c127 : N6 127 = sd_s M5 127 (nrS S) (zN b') 127 := by
      have : N3 127 = M5 127 := by rw [n3, sd_s_o (by omega), n2, sd_s_o (by omega), n1, sd_s_o (by omega)]
      rw [n6, sd_s_o (by omega), n5, sd_s_o (by omega), n4']
      unfold sd_s; rw [va_up_self, va_up_self, this]
    have c128 : N6 128 = sd_s M5 128 (nrS S) (bI th) 128 := by
      have : N4 128 = M5 128 := by rw [n4', sd_s_o (by omega), n3, sd_s_o (by omega), n2, sd_s_o (by omega), n1, sd_s_o (by omega)]
      rw [n6, sd_s_o (by omega), n5]
      unfold sd_s; rw [va_up_self, va_up_self, this]
    refine h0 _ e0 (MST.sch m5 ⟨?_, fun l9 hl9 => ?_, fun i hi => ?_, r6, fun r hr => ?_⟩ (fun j x y z => o116 j z) (fun c x y => oth c (by omega) (by omega))) (fun c hcc => ?_) ?_
    · rw [o116 2 (by omega)]; exact m5.1.1
    · rw [oth 117 (by omega) (by omega)]; exact m5.1.2.1 l9 hl9
    · unfold leafM
      rw [oth 118 (by omega) (by omega), oth 119 (by omega) (by omega), oth 120 (by omega) (by omega), oth 121 (by omega) (by omega), oth 122 (by omega) (by omega), oth 123 (by omega) (by omega)]
      exact m5.1.2.2.1 i hi
    · show ruleM _ _ (va_up (ruS S) (nrS S) _ r)
      have old := m5.1.2.2.2.2 r hr
      unfold ruleM
      rw [c124, c125, c126, c127, c128]
      by_cases e : r = nrS S
      · subst e
        rw [va_up_self, sd_s_self, sd_s_self, sd_s_self, sd_s_self, sd_s_self]
        exact ⟨rfl, rfl, rfl, rfl, rfl⟩
      · rw [va_up_ne _ _ e, sd_s_ne e, sd_s_ne e, sd_s_ne e, sd_s_ne e, sd_s_ne e]
        exact old
    · rw [oth c (by omega) (by omega)]; exact f5 c hcc
    · rw [o116 0 (by omega)]; exact t5
  · unfold cRule; rw [bI_0.mp h, bI_0.mp g, show (nrS S == 4) = false by simpa using k, bI_1.mp m, bI_0.mp p]; rfl
  · unfold cRule; rw [bI_0.mp h, bI_0.mp g, k]; rfl
theorem J_rule {t : Nat} {M : sdM} {l a v b : Int32} {th : Bool} (h : INV t M) : w_L_rule M l a v b (bI th) (fun k M1 => w_O_rule M1 l a v b (bI th) (fun b M2 => goodJ (t + 1) k b M2)) := by
  obtain ⟨S, rdy, off, chg, wts, hld, pg, w, bg, F, hc, hm, hk⟩ := h
  by_cases e : cRule S rdy off l a b = 0
  · obtain ⟨g4, l', a', b', a2, a4, b4, rfl, rfl, rfl⟩ := cRule_0 hk.1 e
    refine joinJ (fun Q a b => C_rule hc hk a b) (fun M1 d Q a b => O_rule d hk a b) hm (fun _ _ d f => d.fc f) (fun _ _ c f => c.fm f) (fun _ _ c f => c.fm f) (fun M' c d => ⟨_, _, _, _, _, _, _, _, _, _, c, d, hk.mono⟩) (fun M' c d => ⟨_, _, _, _, _, _, _, _, _, _, c, d, hk.sch ?_ (fun A hA => hA)⟩)
    rw [zN_nat (by omega), zN_nat (by omega), zN_nat (by omega)]
    refine ⟨hk.1.1, hk.1.2.1, hk.1.2.2.1, g4, fun r => ?_, hk.1.2.2.2.2.2⟩
    show ruL (va_up (ruS S) (nrS S) _ r) < 4 ∧ ruA (va_up (ruS S) (nrS S) _ r) < 4 ∧ ruB (va_up (ruS S) (nrS S) _ r) < 4
    by_cases e : r = nrS S
    · subst e; rw [va_up_self]; exact ⟨a2, a4, b4⟩
    · rw [va_up_ne _ _ e]; exact hk.1.2.2.2.2.1 r
  · exact joinJ (C' := fun _ => False) (D' := fun _ => False) (r := 0) (fun Q a b => C_rule hc hk a (fun M' h => (e h).elim)) (fun M1 d Q a b => O_rule (v := v) (th := th) d hk a (fun M' h => (e h).elim)) hm (fun _ _ d f => d.fc f) (fun _ _ c f => c.fm f) (fun _ _ c f => c) (fun M' c d => ⟨_, _, _, _, _, _, _, _, _, _, c, d, hk.mono⟩) (fun M' c d => c.elim)
def cOpn (rdy off : Bool) : Int32 := if off || rdy then 1 else 0
def cUp (rdy off : Bool) : Int32 := if off || !rdy then 1 else 0
theorem CST.rdy {S : Sch} {rdy off : Bool} {chg wts : Nat} {hld : Int32} {pg : Nat} {w : Flt} {bg : Nat → Bool} {F : Nat → ASet} {M : sdM} (hc : CST M S rdy off chg wts hld pg w bg F) : CST (sd_s M 1 0 1) S true off chg wts hld pg w bg F := by
  refine ⟨?_, ?_, hc.2.2.fr (fun c h => sd_s_o (by have := h.1; omega))⟩
  · obtain ⟨h1, h2, h3, h4, h5⟩ := hc.1
    refine ⟨by rw [sd_s_ne (by omega)]; exact h1, fun l hl => by rw [sd_s_o (by omega)]; exact h2 l hl, fun i hi => ?_, by rw [sd_s_ne (by omega)]; exact h4, fun r hr => ?_⟩
    · unfold leafC; rw [sd_s_o (by omega)]; exact h3 i hi
    · unfold ruleC; rw [sd_s_o (by omega)]; exact h5 r hr
  · obtain ⟨h1, h2, h3, h4, h5, h6, h7, h8⟩ := hc.2.1
    unfold CV
    rw [sd_s_o (show 0 ≠ 1 by omega), sd_s_o (show 42 ≠ 1 by omega), sd_s_self]
    exact ⟨rfl, h2, h3, h4, h5, h6, h7, fun s hs => by rw [sd_s_o (by omega)]; exact h8 s hs⟩
theorem C_ready {S : Sch} {rdy off : Bool} {chg wts : Nat} {hld : Int32} {pg : Nat} {w : Flt} {bg : Nat → Bool} {F : Nat → ASet} {M : sdM} {n : Nat} {t : Nat} (hc : CST M S rdy off chg wts hld pg w bg F) (hk : OKS t S chg wts pg F) (hn : 135 ≤ n) {Q : Int32 → sdM → Prop} (h1 : ∀ M', cOpn rdy off ≠ 0 → CST M' S rdy off chg wts hld pg w bg F → frC M M' → Q (cOpn rdy off) M') (h0 : ∀ M', cOpn rdy off = 0 → CST M' S true off chg wts hld pg w bg F → frC M M' → M' 134 0 = bI (faultS S (F 0)).isNone → Q 0 M') : w_L_ready n M Q := by
  refine p_opn hc.2.1.1 hc.2.1.2.1 (fun h => ⟨rfl, ?_⟩) (fun h => ⟨Or.inr rfl, fun M1 e1 M2 e2 M3 e3 => ?_⟩)
  · have e : cOpn rdy off = 1 := by unfold cOpn; rw [h]; rfl
    rw [e] at h1
    exact h1 M (by decide) hc (frC.rf _)
  · have e : cOpn rdy off = 0 := by unfold cOpn; rw [h]; rfl
    have c1 : CST M1 S true off chg wts hld pg w bg F := by rw [e1]; exact hc.rdy
    have f1 : frC M M1 := by rw [e1]; exact (frC.rf M).s (by omega)
    intro N1 n1 N2 n2 N3 n3 N4 n4
    have low : ∀ c, c < 135 → N4 c = M1 c := fun c hcc => by rw [n4, sd_s_o (by omega), n3, sd_s_o (by omega), n2, sd_s_o (by omega), n1, sd_s_o (by omega), e3, va_up_ne _ _ (by omega), e2, va_up_ne _ _ (by omega)]
    have c4 : CST N4 S true off chg wts hld pg w bg F := c1.fr (fun c hcc => low c (by omega))
    have f4 : frC M N4 := f1.tr (fun c x y => low c (by omega))
    have r25 : RC N4 25 (F 0) := c4.2.2.1 0 (by omega) (by omega)
    refine p_passes c4.1 hk.1 r25 (hk.s (by omega)) (fun ef => ⟨Or.inr rfl, fun M5 e5 => ?_⟩) (fun ww ef => ⟨Or.inl rfl, fun M5 e5 => ?_⟩)
    · rw [ef] at h0
      subst e5
      exact h0 _ e c4.o134 (f4.s (by omega)) (by rw [sd_s_self]; rfl)
    · rw [ef] at h0
      subst e5
      have lowN : ∀ c, c < 135 → noted N4 (n + 1) ww c = N4 c := fun c hcc => by unfold noted; rw [sd_s_o (by omega), sd_s_o (by omega), sd_s_o (by omega), sd_s_o (by omega)]
      exact h0 _ e (c4.fr (fun c hcc => lowN c (by omega))).o134 ((f4.tr (fun c x y => lowN c (by omega))).s (by omega)) (by rw [sd_s_self]; rfl)
theorem faultS_kind {S : Sch} {A : ASet} {ww : Flt} (h : faultS S A = some ww) : ¬ ww.1 = 0 ∧ ¬ ww.1 ≤ 0 := by
  have key : ∀ b : Nat, 1 ≤ b → b ≤ 4 → ¬ zN b = 0 ∧ ¬ zN b ≤ 0 := fun b h1 h2 => ⟨fun e => by rw [show (0 : Int32) = zN 0 from rfl, zN_eq (by omega) (by omega)] at e; omega, fun e => by rw [show (0 : Int32) = zN 0 from rfl, zN_le (by omega) (by omega)] at e; omega⟩
  have hL : ∀ (l d i : Nat) (w : Flt), wrgL S A l d i = some w → ¬ w.1 = 0 ∧ ¬ w.1 ≤ 0 := by
    intro l d
    induction d with
    | zero => intro i w h; cases h
    | succ d ih =>
      intro i w h
      rw [wrgL] at h
      split at h
      · rename_i v hv
        cases h
        exact key v.1 (wrgE_kind hv).1 (wrgE_kind hv).2
      · exact ih _ _ h
  have hS : ∀ (d l : Nat) (w : Flt), wrgS S A d l = some w → ¬ w.1 = 0 ∧ ¬ w.1 ≤ 0 := by
    intro d
    induction d with
    | zero => intro l w h; cases h
    | succ d ih =>
      intro l w h
      rw [wrgS] at h
      split at h
      · rename_i v hv
        cases h
        exact hL _ _ _ _ hv
      · exact ih _ _ h
  unfold faultS at h
  split at h
  · cases h; exact ⟨show ¬ (5 : Int32) = 0 by decide, show ¬ (5 : Int32) ≤ 0 by decide⟩
  · exact hS _ _ _ h
theorem Fnd.ms {S : Sch} {rdy off : Bool} {chg wts : Nat} {hld : Int32} {pg : Nat} {w : Flt} {bg : Nat → Bool} {F : Nat → ASet} {M M' : sdM} {l k p : Int32} (h : Fnd M M' l k p) (hm : MST M S rdy off chg wts hld pg w bg F) : MST M' S rdy off chg wts hld pg w bg F := hm.sl (fun c a b => h.1 c (by omega)) (fun j a b => h.2.1 j (by omega) (by omega) (by omega))
theorem Fnd.fm {M M' : sdM} {l k p : Int32} (h : Fnd M M' l k p) : frM M M' := fun c hc => h.1 c (by omega)
theorem O_ready {S : Sch} {rdy off : Bool} {chg wts : Nat} {hld : Int32} {pg : Nat} {w : Flt} {bg : Nat → Bool} {F : Nat → ASet} {M : sdM} {t : Nat} (hm : MST M S rdy off chg wts hld pg w bg F) (hk : OKS t S chg wts pg F) {Q : Int32 → sdM → Prop} (h1 : ∀ M' b, cOpn rdy off ≠ 0 → MST M' S rdy off chg wts hld pg w bg F → frM M M' → M' 116 0 = cOpn rdy off → Q b M') (h0 : ∀ M', cOpn rdy off = 0 → MST M' S true off chg wts hld pg w bg F → frM M M' → M' 116 0 = 0 → Q (bI (faultS S (F 0)).isNone) M') : w_O_ready M Q := by
  have bad : cOpn rdy off = 1 → k_O_ready_20 Q M 1 := by
    intro e M5 e5
    subst e5
    rw [sd_s_self]
    rw [e] at h1
    exact ⟨fun h => absurd h (by decide), fun _ => ⟨Or.inl rfl, h1 _ _ (by decide) hm.thr ((frM.rf M).s (by omega)) (sd_s_self _ _ _ _)⟩⟩
  unfold w_O_ready
  rw [hm.2.1.1, hm.2.1.2.1]
  refine ⟨fun h => bad ?_, fun h => ⟨fun g M5 e5 => ?_, fun g => bad ?_⟩⟩
  · unfold cOpn; rw [bI_1.mp h]; rfl
  · have e : cOpn rdy off = 0 := by unfold cOpn; rw [bI_0.mp h, bI_0.mp g]; rfl
    have t5 : M5 116 0 = 0 := by rw [e5, sd_s_self]
    rw [t5]
    refine ⟨fun _ => ⟨Or.inr rfl, fun M6 e6 => ?_⟩, fun h => absurd (by decide) h⟩
    have m6 : MST M6 S true off chg wts hld pg w bg F := by
      have m5 : MST M5 S rdy off chg wts hld pg w bg F := by rw [e5]; exact hm.thr
      rw [e6]
      refine ⟨m5.1.fr (fun c a b => sd_s_o (by omega)) (sd_s_ne (by omega)) (sd_s_ne (by omega)), ?_, fun j hj => (m5.2.2 j hj).fr (fun c a b => sd_s_o (by omega))⟩
      have := m5.2.1
      unfold MV at this ⊢
      rw [sd_s_self, sd_s_ne (by omega), sd_s_ne (by omega), sd_s_ne (by omega), sd_s_ne (by omega), sd_s_ne (by omega), sd_s_ne (by omega), sd_s_ne (by omega), sd_s_ne (by omega), sd_s_ne (by omega), sd_s_ne (by omega), sd_s_o (by omega)]
      exact ⟨rfl, this.2⟩
    have f6 : frM M M6 := by rw [e6, e5]; exact ((frM.rf M).s (by omega)).s (by omega)
    have t6 : M6 116 0 = 0 := by rw [e6, sd_s_ne (by omega)]; exact t5
    refine m_faultOf (s := 0) m6.1 hk.1 (m6.2.2 0 (by omega)) (hk.s (by omega)) (by omega) (fun ef => ⟨fun h => absurd rfl h, fun _ => ⟨Or.inr rfl, ?_⟩⟩) (fun ww M' ef hF => ⟨fun _ => ⟨Or.inl rfl, ?_⟩, fun h => ((faultS_kind ef).1 h).elim⟩)
    · rw [ef] at h0; exact h0 M6 e m6 f6 t6
    · rw [ef] at h0; exact h0 M' e (hF.ms m6) (f6.tr hF.fm) (by rw [hF.2.1 0 (by omega) (by omega) (by omega)]; exact t6)
  · unfold cOpn; rw [bI_1.mp g]; simp
theorem J_ready {t n : Nat} {M : sdM} (hn : 135 ≤ n) (h : INV t M) : w_L_ready n M (fun k M1 => w_O_ready M1 (fun b M2 => goodZ (t + 1) k b M2)) := by
  obtain ⟨S, rdy, off, chg, wts, hld, pg, w, bg, F, hc, hm, hk⟩ := h
  exact joinZ (fun Q a b => C_ready hc hk hn a b) (fun M1 d Q a b => O_ready d hk a b) hm (fun _ _ d f => d.fc f) (fun _ _ c f => c.fm f) (fun _ _ c f => c.fm f) (fun M' c d => ⟨_, _, _, _, _, _, _, _, _, _, c, d, hk.mono⟩) (fun M' c d => ⟨_, _, _, _, _, _, _, _, _, _, c, d, hk.mono⟩)
theorem insP_spec {R : List Row} {k : Nat} : ∀ n, n ≤ R.length → (∀ j r, insP R k n ≤ j → j < n → R[j]? = some r → k < r.1) ∧ (0 < insP R k n → ∃ r, R[insP R k n - 1]? = some r ∧ r.1 ≤ k) := by
  intro n
  induction n with
  | zero => intro _; exact ⟨fun j r h1 h2 => by omega, fun h => by simp [insP] at h⟩
  | succ n ih =>
    intro hn
    have hr : R[n]? = some R[n] := List.getElem?_eq_getElem (by omega)
    obtain ⟨i1, i2⟩ := ih (by omega)
    have e : insP R k (n + 1) = if R[n].1 ≤ k then n + 1 else insP R k n := by rw [insP, hr]
    by_cases hle : R[n].1 ≤ k
    · rw [e, if_pos hle]
      exact ⟨fun j r h1 h2 => by omega, fun _ => ⟨R[n], by simpa using hr, hle⟩⟩
    · rw [e, if_neg hle]
      refine ⟨fun j r h1 h2 hj => ?_, i2⟩
      by_cases ej : j = n
      · subst ej; rw [hr] at hj; cases hj; omega
      · exact i1 j r h1 (by omega) hj
theorem ins_td {x : Row} : ∀ (R : List Row) (p : Nat), p ≤ R.length → R.insertIdx p x = R.take p ++ x :: R.drop p
  | R, 0, _ => by simp
  | [], p + 1, h => absurd h (by simp)
  | a :: R, p + 1, h => by rw [List.insertIdx_succ_cons, ins_td R p (by simpa using h)]; rfl
theorem okL_ins {R : List Row} {k : Nat} (h : okL R) (hk : k ≤ 100) (hl : R.length < 12) (hno : ∀ r ∈ R, r.1 ≠ k) : okL (insL R k) := by
  have hle := insP_le R k R.length
  obtain ⟨s1, s2⟩ := insP_spec (R := R) (k := k) R.length (Nat.le_refl _)
  generalize hp : insP R k R.length = p at *
  have e : insL R k = R.take p ++ newR k :: R.drop p := by
    unfold insL; rw [hp]
    exact ins_td R p hle
  rw [e]
  have lo : ∀ a ∈ R.take p, a.1 < k := by
    intro a ha
    obtain ⟨i, hi⟩ := List.mem_iff_getElem?.mp ha
    have hil : i < (R.take p).length := (List.getElem?_eq_some_iff.mp hi).1
    rw [List.length_take] at hil
    rw [List.getElem?_take, if_pos (by omega)] at hi
    obtain ⟨r, hr, hrk⟩ := s2 (by omega)
    have hne := hno a (List.mem_of_getElem? hi)
    by_cases ei : i = p - 1
    · rw [ei, hr] at hi; cases hi; omega
    · have hpw := List.pairwise_iff_getElem.mp h.2.1 i (p - 1) (by omega) (by omega) (by omega)
      have e1 : R[i] = a := by rw [List.getElem?_eq_getElem (by omega)] at hi; exact Option.some.inj hi
      have e2 : R[p - 1] = r := by rw [List.getElem?_eq_getElem (by omega)] at hr; exact Option.some.inj hr
      rw [e1, e2] at hpw; omega
  have hi' : ∀ b ∈ R.drop p, k < b.1 := by
    intro b hb
    obtain ⟨i, hi⟩ := List.mem_iff_getElem?.mp hb
    rw [List.getElem?_drop] at hi
    exact s1 (p + i) b (by omega) (List.getElem?_eq_some_iff.mp hi).1 hi
  refine ⟨fun r hr => ?_, ?_, ?_⟩
  · rcases List.mem_append.mp hr with hr | hr
    · exact h.1 r (List.mem_of_mem_take hr)
    · rcases List.mem_cons.mp hr with rfl | hr
      · exact ⟨hk, by simp [newR], fun f _ => rfl⟩
      · exact h.1 r (List.mem_of_mem_drop hr)
  · rw [List.pairwise_append]
    refine ⟨h.2.1.sublist (List.take_sublist _ _), List.pairwise_cons.mpr ⟨fun b hb => hi' b hb, h.2.1.sublist (List.drop_sublist _ _)⟩, fun a ha b hb => ?_⟩
    rcases List.mem_cons.mp hb with rfl | hb
    · exact lo a ha
    · have := lo a ha; have := hi' b hb; omega
  · simp; omega
theorem insL_len (R : List Row) (k : Nat) : (insL R k).length = R.length + 1 := by
  unfold insL
  exact List.length_insertIdx_of_le_length (insP_le R k R.length) _
theorem insL_mem {R : List Row} {k : Nat} {r : Row} (h : r ∈ insL R k) : r = newR k ∨ r ∈ R := by
  unfold insL at h
  rw [ins_td R _ (insP_le R k R.length)] at h
  rcases List.mem_append.mp h with h | h
  · exact Or.inr (List.mem_of_mem_take h)
  · rcases List.mem_cons.mp h with h | h
    · exact Or.inl h
    · exact Or.inr (List.mem_of_mem_drop h)
theorem okL_era {R : List Row} {i : Nat} (h : okL R) : okL (R.eraseIdx i) :=
  ⟨fun r hr => h.1 r (List.mem_of_mem_eraseIdx hr), h.2.1.sublist (List.eraseIdx_sublist _ _), Nat.le_trans (List.length_eraseIdx_le _ _) h.2.2⟩
theorem okL_set {R : List Row} {i : Nat} {r q : Row} (h : okL R) (hr : R[i]? = some r) (hq : okR q) (hk : q.1 = r.1) : okL (R.set i q) := by
  have hi : i < R.length := (List.getElem?_eq_some_iff.mp hr).1
  have key : ∀ (j : Nat) (hj : j < R.length), ((R.set i q)[j]'(by simpa using hj)).1 = R[j].1 := by
    intro j hj
    rw [List.getElem_set]
    by_cases e : i = j
    · subst e
      rw [if_pos rfl, hk]
      have : R[i] = r := by rw [List.getElem?_eq_getElem hi] at hr; exact Option.some.inj hr
      rw [this]
    · rw [if_neg e]
  refine ⟨fun x hx => ?_, ?_, by simpa using h.2.2⟩
  · rcases List.mem_or_eq_of_mem_set hx with hx | hx
    · exact h.1 x hx
    · rw [hx]; exact hq
  · rw [List.pairwise_iff_getElem]
    intro a b ha hb hab
    rw [key a (by simpa using ha), key b (by simpa using hb)]
    exact List.pairwise_iff_getElem.mp h.2.1 a b _ _ hab
theorem cellOf_ca (chg : Nat) {s : Nat} (hs : s < 3) : cellOf chg (10 + s) = 84 + 11 * s := by
  unfold cellOf
  rw [if_neg (by omega), if_neg (by omega), if_neg (by omega), if_pos (by omega)]; omega
theorem cellOf_ba (chg : Nat) {s : Nat} (hs : s < 3) : cellOf chg (13 + s) = 89 + 11 * s := by
  unfold cellOf
  rw [if_neg (by omega), if_neg (by omega), if_neg (by omega), if_neg (by omega)]; omega
def upSes (F : Nat → ASet) (s : Nat) (A B : ASet) : Nat → ASet := fun j => if j = 10 + s then A else if j = 13 + s then B else F j
theorem upSes_1 (F : Nat → ASet) {s : Nat} (hs : s < 3) (A B : ASet) : va_up (va_up F (10 + s) A) (13 + s) B = upSes F s A B := by
  funext j
  unfold va_up upSes
  by_cases h : j = 13 + s
  · rw [if_pos h, if_neg (by omega), if_pos h]
  · rw [if_neg h]
    by_cases h2 : j = 10 + s
    · rw [if_pos h2, if_pos h2]
    · rw [if_neg h2, if_neg h2, if_neg h]
theorem upSes_2 (F : Nat → ASet) {s : Nat} (hs : s < 3) (A B : ASet) : va_up (va_up F (13 + s) B) (10 + s) A = upSes F s A B := by
  funext j
  unfold va_up upSes
  by_cases h : j = 10 + s
  · rw [if_pos h]
  · rw [if_neg h]
theorem CST.gok {S : Sch} {rdy off : Bool} {chg wts : Nat} {hld : Int32} {pg : Nat} {w : Flt} {bg : Nat → Bool} {F : Nat → ASet} {M : sdM} (hc : CST M S rdy off chg wts hld pg w bg F) {o : Nat} (ho : setC o) : gOK M o := hc.2.2.2 o ho
theorem C_take {S : Sch} {rdy off : Bool} {chg wts : Nat} {hld : Int32} {pg : Nat} {w : Flt} {bg : Nat → Bool} {F : Nat → ASet} {M : sdM} {s p1 p2 : Nat} {A B : ASet} {Q : sdM → Prop} (hc : CST M S rdy off chg wts hld pg w bg F) (hs : s < 3) (s1 : setC p1) (s2 : setC p2) (n1 : p1 ≠ 84 + 11 * s) (n2 : p1 ≠ 89 + 11 * s) (m1 : p2 ≠ 84 + 11 * s) (m2 : p2 ≠ 89 + 11 * s) (hA : RC M p1 A) (hB : RC M p2 B) (oA : okS A) (oB : okS B) (hq : ∀ M', CST M' S rdy off chg wts hld pg w bg (upSes F s A B) → frC M M' → Q M') : w_N_takeOver (83 + 11 * s) M p1 p2 Q := by
  have sa : setC (84 + 11 * s) := by have := cellOf_set chg (j := 10 + s) (by omega); rw [cellOf_ca chg hs] at this; exact this
  have sb : setC (89 + 11 * s) := by have := cellOf_set chg (j := 13 + s) (by omega); rw [cellOf_ba chg hs] at this; exact this
  have e1 : 83 + 11 * s + 1 = 84 + 11 * s := by omega
  have e6 : 83 + 11 * s + 6 = 89 + 11 * s := by omega
  unfold w_N_takeOver
  rw [e1, e6]
  refine p_copyFrom (sa.dis s1 (Ne.symm n1)) hA oA (hc.gok s1) (fun M1 a1 a2 a3 => ?_)
  have c1 : CST M1 S rdy off chg wts hld pg w bg (va_up F (10 + s) A) := hc.put (by omega) (by rw [cellOf_ca chg hs]; exact a1) (by rw [cellOf_ca chg hs]; exact a2) (by rw [cellOf_ca chg hs]; exact a3)
  refine p_copyFrom (sb.dis s2 (Ne.symm m2)) (a1.RC (sa.dis s2 (Ne.symm m1)) hB) oB (c1.gok s2) (fun M2 b1 b2 b3 => ?_)
  have c2 := c1.put (j0 := 13 + s) (A := B) (by omega) (by rw [cellOf_ba chg hs]; exact b1) (by rw [cellOf_ba chg hs]; exact b2) (by rw [cellOf_ba chg hs]; exact b3)
  rw [upSes_1 F hs] at c2
  exact hq M2 c2 ((a1.fc sa).tr (b1.fc sb))
theorem OKS.ses {t : Nat} {S : Sch} {chg wts pg s : Nat} {F : Nat → ASet} {A B : ASet} (h : OKS t S chg wts pg F) (hs : s < 3) (hA : okA S A) (hB : okA S B) : OKS t S chg wts pg (upSes F s A B) := by
  refine ⟨h.1, h.2.1, h.2.2.1, h.2.2.2.1, fun j hj => ?_, fun hw => ?_⟩
  · unfold upSes
    split
    · exact hA
    · split
      · exact hB
      · exact h.2.2.2.2.1 j hj
  · have e0 : upSes F s A B 0 = F 0 := by unfold upSes; rw [if_neg (by omega), if_neg (by omega)]
    have e2 : upSes F s A B 2 = F 2 := by unfold upSes; rw [if_neg (by omega), if_neg (by omega)]
    rw [e0, e2]; exact h.2.2.2.2.2 hw
def cntB (bg : Nat → Bool) : Int32 := (bI (bg 0) + bI (bg 1)) + bI (bg 2)
theorem p_begun {M : sdM} {bg : Nat → Bool} {Q : Int32 → sdM → Prop} (e3 : ∀ s, s < 3 → M (83 + 11 * s) 0 = bI (bg s)) (hq : Q (cntB bg) M) : w_D_begunSessions M Q := by
  have step : ∀ (N s : Nat) (x : Int32), s < 3 → h_D_begunSessions_4 Q N M (x + bI (bg s)) (zN (s + 1)) → h_D_begunSessions_4 Q (N + 1) M x (zN s) := by
    intro N s x hs h
    refine ⟨fun h9 => ?_, fun _ => ⟨(zN_in (by omega)).mpr hs, ?_⟩⟩
    · rw [show (3 : Int32) = zN 3 from rfl, zN_le (by omega) (by omega)] at h9; omega
    · rw [zN_nat (by omega), e3 s hs]
      refine ⟨fun g => ?_, fun g => ?_⟩
      · show h_D_begunSessions_4 Q N M x (zN s + 1)
        rw [bI_0.mp g] at h
        rw [zN_succ]
        simpa [bI] using h
      · show h_D_begunSessions_4 Q N M (x + 1) (zN s + 1)
        rw [bI_1.mp g] at h
        rw [zN_succ]
        exact h
  refine ⟨4, step 3 0 0 (by omega) (step 2 1 _ (by omega) (step 1 2 _ (by omega) ⟨fun _ => ?_, fun h => absurd (by decide) h⟩))⟩
  have : (0 : Int32) + bI (bg 0) + bI (bg 1) + bI (bg 2) = cntB bg := by unfold cntB; rw [Int32.zero_add]
  rw [this]; exact hq
def cBeg (rdy off : Bool) (a : Int32) : Int32 := if off || !rdy then 1 else if !isSesB a then 2 else 0
theorem CST.bgn {S : Sch} {rdy off : Bool} {chg wts : Nat} {hld : Int32} {pg : Nat} {w : Flt} {bg : Nat → Bool} {F : Nat → ASet} {M : sdM} {s : Nat} {b : Bool} (hc : CST M S rdy off chg wts hld pg w bg F) (hs : s < 3) : CST (sd_s M (83 + 11 * s) 0 (bI b)) S rdy off chg wts hld pg w (va_up bg s b) F := by
  refine ⟨hc.1.fr (fun c h => sd_s_o (by omega)), ?_, hc.2.2.fr (fun c h => sd_s_o (by unfold inSet at h; omega))⟩
  obtain ⟨h1, h2, h3, h4, h5, h6, h7, h8⟩ := hc.2.1
  unfold CV
  rw [sd_s_o (show 0 ≠ 83 + 11 * s by omega), sd_s_o (show 1 ≠ 83 + 11 * s by omega), sd_s_o (show 42 ≠ 83 + 11 * s by omega)]
  refine ⟨h1, h2, h3, h4, h5, h6, h7, fun s' hs' => ?_⟩
  by_cases e : s' = s
  · subst e; rw [sd_s_self, va_up_self]
  · rw [sd_s_o (by omega), va_up_ne _ _ e]; exact h8 s' hs'
theorem MST.bgn {S : Sch} {rdy off : Bool} {chg wts : Nat} {hld : Int32} {pg : Nat} {w : Flt} {bg : Nat → Bool} {F : Nat → ASet} {M : sdM} {s : Nat} {b : Bool} (hm : MST M S rdy off chg wts hld pg w bg F) : MST (sd_s M 133 s (bI b)) S rdy off chg wts hld pg w (va_up bg s b) F := by
  refine ⟨hm.1.fr (fun c h1 h2 => sd_s_o (by omega)) (by rw [sd_s_o (by omega)]) (by rw [sd_s_o (by omega)]), ?_, fun j hj => (hm.2.2 j hj).fr (fun c h1 h2 => sd_s_o (by omega))⟩
  obtain ⟨h1, h2, h3, h4, h5, h6, h7, h8, h9⟩ := hm.2.1
  unfold MV
  rw [sd_s_o (show 116 ≠ 133 by omega)]
  refine ⟨h1, h2, h3, h4, h5, h6, h7, h8, fun s' hs' => ?_⟩
  by_cases e : s' = s
  · subst e; rw [sd_s_self, va_up_self]
  · rw [sd_s_ne e, va_up_ne _ _ e]; exact h9 s' hs'
theorem C_begin {S : Sch} {rdy off : Bool} {chg wts : Nat} {hld : Int32} {pg : Nat} {w : Flt} {bg : Nat → Bool} {F : Nat → ASet} {M : sdM} {a : Int32} {t : Nat} (hc : CST M S rdy off chg wts hld pg w bg F) (hk : OKS t S chg wts pg F) {Q : Int32 → sdM → Prop} (h1 : ∀ M', cBeg rdy off a ≠ 0 → CST M' S rdy off chg wts hld pg w bg F → frC M M' → Q (cBeg rdy off a) M') (h0 : ∀ M', cBeg rdy off a = 0 → CST M' S rdy off chg wts hld pg w (va_up bg a.toNatClampNeg true) (upSes F a.toNatClampNeg (F 0) (F 0)) → frC M M' → M' 134 0 = cntB (va_up bg a.toNatClampNeg true) → Q 0 M') : w_L_begin M a Q := by
  have bad : ∀ c : Int32, cBeg rdy off a = c → c ≠ 0 → Q c M := fun c e hne => by
    rw [e] at h1; exact h1 M hne hc (frC.rf _)
  refine p_rdy hc.2.1.1 hc.2.1.2.1 (fun h => Or.inl ⟨rfl, bad 1 ?_ (by decide)⟩) (fun h => p_sess (fun g => Or.inr ⟨rfl, bad 2 ?_ (by decide)⟩) (fun g => ?_))
  · unfold cBeg; rw [h]; rfl
  · unfold cBeg; rw [h, g]; rfl
  · have e0 : cBeg rdy off a = 0 := by unfold cBeg; rw [h, g]; rfl
    obtain ⟨s, hs, rfl⟩ := sesB g
    rw [zN_nat (by omega)] at h0
    have vi : vp_in (zN s) 3 := (zN_in (by omega)).mpr hs
    refine ⟨vi, Or.inr rfl, fun M1 e1 => ⟨vi, ?_⟩⟩
    rw [zN_nat (by omega)] at e1 ⊢
    have c1 : CST M1 S rdy off chg wts hld pg w (va_up bg s true) F := by rw [e1]; exact hc.bgn (b := true) hs
    have f1 : frC M M1 := by rw [e1]; exact (frC.rf M).s (by omega)
    have r25 : RC M1 25 (F 0) := c1.2.2.1 0 (by omega) (by omega)
    refine C_take c1 hs (Or.inl rfl) (Or.inl rfl) (by omega) (by omega) (by omega) (by omega) r25 r25 (hk.s (by omega)) (hk.s (by omega)) (fun M2 c2 f2 => p_begun c2.2.1.2.2.2.2.2.2.2 (fun M3 e3 => ?_))
    subst e3
    exact h0 _ e0 c2.o134 ((f1.tr f2).s (by omega)) (sd_s_self _ _ _ _)
theorem O_begin {S : Sch} {rdy off : Bool} {chg wts : Nat} {hld : Int32} {pg : Nat} {w : Flt} {bg : Nat → Bool} {F : Nat → ASet} {M : sdM} {a : Int32} {t : Nat} (hm : MST M S rdy off chg wts hld pg w bg F) (hk : OKS t S chg wts pg F) {Q : Int32 → sdM → Prop} (h1 : ∀ M' b, cBeg rdy off a ≠ 0 → MST M' S rdy off chg wts hld pg w bg F → frM M M' → M' 116 0 = cBeg rdy off a → Q b M') (h0 : ∀ M', cBeg rdy off a = 0 → MST M' S rdy off chg wts hld pg w (va_up bg a.toNatClampNeg true) (upSes F a.toNatClampNeg (F 0) (F 0)) → frM M M' → M' 116 0 = 0 → Q (cntB (va_up bg a.toNatClampNeg true)) M') : w_O_begin M a Q := by
  have bad : ∀ c : Int32, cBeg rdy off a = c → ¬ c ≤ 0 → k_O_begin_24 Q M a c := by
    intro e he hne M5 e5
    subst e5
    rw [sd_s_self]
    rw [he] at h1
    exact ⟨fun h => absurd h hne, fun _ => h1 _ _ (fun h => hne (by rw [h]; decide)) hm.thr ((frM.rf M).s (by omega)) (sd_s_self _ _ _ _)⟩
  refine m_isDown hm.2.1.1 hm.2.1.2.1 ⟨fun h => m_isSession ⟨fun g M5 e5 => ?_, fun g => bad 2 ?_ (by decide)⟩, fun h => bad 1 ?_ (by decide)⟩
  · have e0 : cBeg rdy off a = 0 := by unfold cBeg; rw [bI_0.mp h, bI_1.mp g]; rfl
    obtain ⟨s, hs, rfl⟩ := sesB (bI_1.mp g)
    rw [zN_nat (by omega)] at h0
    have m5 : MST M5 S rdy off chg wts hld pg w bg F := by rw [e5]; exact hm.thr
    have f5 : frM M M5 := by rw [e5]; exact (frM.rf M).s (by omega)
    have t5 : M5 116 0 = 0 := by rw [e5, sd_s_self]
    rw [t5]
    refine ⟨fun _ => ?_, fun h => absurd (by decide) h⟩
    rw [show (10 : Int32) = zN 10 from rfl, show (13 : Int32) = zN 13 from rfl, zN_add, zN_add]
    refine m_copy (a := 0) (by omega) (by omega) (by omega) (m5.2.2 0 (by omega)) (hk.s (by omega)) (fun N1 a1 a2 => ?_)
    have m6 := m5.put (fun j hj => hk.s hj) a1 a2
    refine m_copy (a := 0) (by omega) (by omega) (by omega) (a1.2 0 _ (by omega) (by omega) (hk.s (by omega)) (m5.2.2 0 (by omega))) (hk.s (by omega)) (fun N2 b1 b2 => ?_)
    have ok6 : ∀ j, j < 16 → okS (va_up F (10 + s) (F 0) j) := by
      intro j hj
      by_cases e : j = 10 + s
      · subst e; rw [va_up_self]; exact hk.s (by omega)
      · rw [va_up_ne _ _ e]; exact hk.s hj
    have m7 := m6.put ok6 b1 b2
    rw [upSes_1 F hs] at m7
    refine ⟨(zN_in (by omega)).mpr hs, Or.inr rfl, fun N3 n3 => ?_⟩
    rw [zN_nat (by omega)] at n3
    have m8 : MST N3 S rdy off chg wts hld pg w (va_up bg s true) (upSes F s (F 0) (F 0)) := by rw [n3]; exact m7.bgn (b := true)
    have f8 : frM M N3 := by rw [n3]; exact (f5.tr (a1.fm.tr b1.fm)).s (by omega)
    have t8 : N3 116 0 = 0 := by rw [n3, sd_s_o (by omega), b1.1 116 (by omega), a1.1 116 (by omega)]; exact t5
    have hq := h0 N3 e0 m8 f8 t8
    have b0 := m8.2.1.2.2.2.2.2.2.2.2 0 (by omega)
    have b1' := m8.2.1.2.2.2.2.2.2.2.2 1 (by omega)
    have b2' := m8.2.1.2.2.2.2.2.2.2.2 2 (by omega)
    have c89 : ∀ x y : Int32, x = bI (va_up bg s true 0) → y = bI (va_up bg s true 1) → k_O_begin_89 Q N3 x y := by
      intro x y ex ey
      refine ⟨(zN_in (a := 2) (by omega)).mpr (by omega), fun g => ?_, fun g => ?_⟩
      · have g := b2'.symm.trans g
        show Q ((x + y) + 0) N3
        unfold cntB at hq; rw [g, ← ex, ← ey] at hq; exact hq
      · have g : va_up bg s true 2 = true := bI_1.mp (fun q => g (b2'.trans q))
        show Q ((x + y) + 1) N3
        unfold cntB at hq; rw [g, ← ex, ← ey] at hq; exact hq
    have c75 : ∀ x : Int32, x = bI (va_up bg s true 0) → k_O_begin_75 Q N3 x := by
      intro x ex
      exact ⟨(zN_in (a := 1) (by omega)).mpr (by omega), fun g => c89 x 0 ex (g.symm.trans b1'), fun g => c89 x 1 ex (by rw [bI_1.mp (fun q => g (b1'.trans q))]; rfl)⟩
    exact ⟨(zN_in (a := 0) (by omega)).mpr (by omega), fun g => c75 0 (g.symm.trans b0), fun g => c75 1 (by rw [bI_1.mp (fun q => g (b0.trans q))]; rfl)⟩
  · unfold cBeg; rw [bI_0.mp h, bI_0.mp g]; rfl
  · unfold cBeg; rw [bI_1.mp h]; rfl
theorem cBeg_0 {rdy off : Bool} {a : Int32} (h : cBeg rdy off a = 0) : ∃ s, s < 3 ∧ a = zN s := by
  unfold cBeg at h
  split at h
  · cases h
  · split at h
    · cases h
    · rename_i h2
      have h2 : isSesB a = true := by simpa using h2
      exact sesB h2
theorem J_begin {t : Nat} {M : sdM} {a : Int32} (h : INV t M) : w_L_begin M a (fun k M1 => w_O_begin M1 a (fun b M2 => goodJ (t + 1) k b M2)) := by
  obtain ⟨S, rdy, off, chg, wts, hld, pg, w, bg, F, hc, hm, hk⟩ := h
  by_cases e : cBeg rdy off a = 0
  · obtain ⟨s, hs, rfl⟩ := cBeg_0 e
    exact joinJ (fun Q a b => C_begin hc hk a b) (fun M1 d Q a b => O_begin d hk a b) hm (fun _ _ d f => d.fc f) (fun _ _ c f => c.fm f) (fun _ _ c f => c.fm f) (fun M' c d => ⟨_, _, _, _, _, _, _, _, _, _, c, d, hk.mono⟩) (fun M' c d => ⟨_, _, _, _, _, _, _, _, _, _, c, d, by rw [zN_nat (by omega)]; exact (hk.ses hs (hk.2.2.2.2.1 0 (by omega)) (hk.2.2.2.2.1 0 (by omega))).mono⟩)
  · exact joinJ (C' := fun _ => False) (D' := fun _ => False) (r := 0) (fun Q a b => C_begin hc hk a (fun M' h => (e h).elim)) (fun M1 d Q a b => O_begin d hk a (fun M' h => (e h).elim)) hm (fun _ _ d f => d.fc f) (fun _ _ c f => c.fm f) (fun _ _ c f => c) (fun M' c d => ⟨_, _, _, _, _, _, _, _, _, _, c, d, hk.mono⟩) (fun M' c d => c.elim)
theorem oNone (x : Option Nat) : x.isNone = !x.isSome := by cases x <;> rfl
def upC (F : Nat → ASet) (s l : Nat) (R : List Row) : Nat → ASet := va_up F (10 + s) (va_up (F (10 + s)) l R)
theorem RC.up {M M' : sdM} {o l : Nat} {A : ASet} {R : List Row} (h : RC M o A) (hA : okS A) (ho : othL M M' o l) (hR : RCl M' o l R) : RC M' o (va_up A l R) := by
  intro l' hl'
  by_cases e : l' = l
  · subst e; rw [va_up_self]; exact hR
  · rw [va_up_ne _ _ e]; exact ho l' _ hl' e (hA l' hl').2.2 (h l' hl')
theorem RM.up {M M' : sdM} {s l : Nat} {A : ASet} {R : List Row} (hs : s < 17) (h : RM M s A) (hA : okS A) (ho : FrM M M' s l) (hR : RMl M' s l R) : RM M' s (va_up A l R) := by
  intro l' hl'
  by_cases e : l' = l
  · subst e; rw [va_up_self]; exact hR
  · rw [va_up_ne _ _ e]; exact ho.2 s l' _ hs hl' (Or.inr e) (hA l' hl').2.2 (h l' hl')
theorem CST.upc {S : Sch} {rdy off : Bool} {chg wts : Nat} {hld : Int32} {pg : Nat} {w : Flt} {bg : Nat → Bool} {F : Nat → ASet} {M M' : sdM} {s l : Nat} {R : List Row} (hc : CST M S rdy off chg wts hld pg w bg F) (hA : okS (F (10 + s))) (hs : s < 3) (ho : outS M M' (84 + 11 * s)) (hR : RCl M' (84 + 11 * s) l R) (h2 : othL M M' (84 + 11 * s) l) (hg : gOK M' (84 + 11 * s)) : CST M' S rdy off chg wts hld pg w bg (upC F s l R) := by
  have hr := hc.2.2.1 (10 + s) (by omega) (by omega)
  rw [cellOf_ca chg hs] at hr
  exact hc.put (by omega) (by rw [cellOf_ca chg hs]; exact ho) (by rw [cellOf_ca chg hs]; exact hr.up hA h2 hR) (by rw [cellOf_ca chg hs]; exact hg)
theorem MST.upc {S : Sch} {rdy off : Bool} {chg wts : Nat} {hld : Int32} {pg : Nat} {w : Flt} {bg : Nat → Bool} {F : Nat → ASet} {M M' : sdM} {s l : Nat} {R : List Row} (hm : MST M S rdy off chg wts hld pg w bg F) (hk : ∀ j, j < 16 → okS (F j)) (hs : s < 3) (ho : FrM M M' (10 + s) l) (hR : RMl M' (10 + s) l R) : MST M' S rdy off chg wts hld pg w bg (upC F s l R) :=
  hm.put hk ho.S ((hm.2.2 (10 + s) (by omega)).up (by omega) (hk _ (by omega)) ho hR)
theorem CST.ca {S : Sch} {rdy off : Bool} {chg wts : Nat} {hld : Int32} {pg : Nat} {w : Flt} {bg : Nat → Bool} {F : Nat → ASet} {M : sdM} {s : Nat} (hc : CST M S rdy off chg wts hld pg w bg F) (hs : s < 3) : RC M (84 + 11 * s) (F (10 + s)) := by
  have hr := hc.2.2.1 (10 + s) (by omega) (by omega)
  rw [cellOf_ca chg hs] at hr; exact hr
theorem setC_ca {s : Nat} (hs : s < 3) : setC (84 + 11 * s) := Or.inr (Or.inr (Or.inr (Or.inr ⟨s, hs, Or.inl rfl⟩)))
theorem setC_ba {s : Nat} (hs : s < 3) : setC (89 + 11 * s) := Or.inr (Or.inr (Or.inr (Or.inr ⟨s, hs, Or.inr rfl⟩)))
theorem OKS.upc {t : Nat} {S : Sch} {chg wts pg s l : Nat} {F : Nat → ASet} {R : List Row} (h : OKS t S chg wts pg F) (hs : s < 3) (h1 : okL R) (h2 : R.length ≤ 6) (h3 : belowL (lvS S l) R) (h4 : nlS S ≤ l → R = []) : OKS t S chg wts pg (upC F s l R) := by
  refine ⟨h.1, h.2.1, h.2.2.1, h.2.2.2.1, fun j hj => ?_, fun hw => ?_⟩
  · unfold upC
    by_cases e : j = 10 + s
    · subst e
      rw [va_up_self]
      intro l' hl'
      by_cases e2 : l' = l
      · subst e2; rw [va_up_self]; exact ⟨h1, h2, h3, h4⟩
      · rw [va_up_ne _ _ e2]; exact h.2.2.2.2.1 _ (by omega) l' hl'
    · rw [va_up_ne _ _ e]; exact h.2.2.2.2.1 j hj
  · unfold upC
    rw [va_up_ne _ _ (by omega), va_up_ne _ _ (by omega)]; exact h.2.2.2.2.2 hw
def cEnt (S : Sch) (rdy off : Bool) (bg : Nat → Bool) (F : Nat → ASet) (a l k : Int32) (th : Bool) : Int32 := if off || !rdy then 1 else if !isSesB a then 2 else if !isLstB S l then 2 else if !bg a.toNatClampNeg then 1 else if decide (l = 0) || (decide (k < 1) || decide (100 < k)) then 3 else if th && ((fi (F (10 + a.toNatClampNeg) l.toNatClampNeg) k).isNone && ((F (10 + a.toNatClampNeg) l.toNatClampNeg).length == 6)) then 4 else 0
def entF (F : Nat → ASet) (s l k : Nat) (th : Bool) : Nat → ASet := match fi (F (10 + s) l) (zN k) with
  | some i => if th then F else upC F s l ((F (10 + s) l).eraseIdx i)
  | none => if th then upC F s l (insL (F (10 + s) l) k) else F
def entR (F : Nat → ASet) (s l k : Nat) (th : Bool) : Int32 := bI (th != (fi (F (10 + s) l) (zN k)).isSome)
/-- the conditions under which an entry is looked for -/
theorem cEnt_3 {S : Sch} {rdy off : Bool} {bg : Nat → Bool} {F : Nat → ASet} {a l k : Int32} {th : Bool} (hk : okSch S) (h : cEnt S rdy off bg F a l k th = 0 ∨ cEnt S rdy off bg F a l k th = 4) : ∃ s l' k', s < 3 ∧ a = zN s ∧ l' < 4 ∧ l' < nlS S ∧ 0 < l' ∧ l = zN l' ∧ 1 ≤ k' ∧ k' ≤ 100 ∧ k = zN k' := by
  unfold cEnt at h
  split at h
  · rcases h with h | h <;> cases h
  · split at h
    · rcases h with h | h <;> cases h
    · rename_i h2
      split at h
      · rcases h with h | h <;> cases h
      · rename_i h3
        split at h
        · rcases h with h | h <;> cases h
        · split at h
          · rcases h with h | h <;> cases h
          · rename_i h5
            have h2 : isSesB a = true := by simpa using h2
            have h3 : isLstB S l = true := by simpa using h3
            obtain ⟨s, hs, rfl⟩ := sesB h2
            obtain ⟨l', b1, b2, rfl⟩ := lstB hk h3
            simp at h5
            obtain ⟨g1, g2, g3⟩ := h5
            have hn : ¬ k < 0 := fun q => by
              rw [Int32.lt_iff_toInt_lt] at q
              rw [Int32.le_iff_toInt_le] at g2
              have : (1 : Int32).toInt = 1 := rfl
              have : (0 : Int32).toInt = 0 := rfl
              omega
            obtain ⟨k', hk', rfl⟩ := zN_of hn
            rw [show (1 : Int32) = zN 1 from rfl, zN_le (by omega) hk'] at g2
            rw [show (100 : Int32) = zN 100 from rfl, zN_le hk' (by omega)] at g3
            have g1 : 0 < l' := by
              rcases Nat.eq_zero_or_pos l' with e | e
              · subst e; exact (g1 rfl).elim
              · exact e
            exact ⟨s, l', k', hs, rfl, b2, b1, g1, rfl, g2, g3, rfl⟩
theorem C_entry {S : Sch} {rdy off : Bool} {chg wts : Nat} {hld : Int32} {pg : Nat} {w : Flt} {bg : Nat → Bool} {F : Nat → ASet} {M : sdM} {a l k : Int32} {th : Bool} {t : Nat} (hc : CST M S rdy off chg wts hld pg w bg F) (hk : OKS t S chg wts pg F) {Q : Int32 → sdM → Prop} (h1 : ∀ M', cEnt S rdy off bg F a l k th ≠ 0 → CST M' S rdy off chg wts hld pg w bg F → frC M M' → Q (cEnt S rdy off bg F a l k th) M') (h0 : ∀ M', cEnt S rdy off bg F a l k th = 0 → CST M' S rdy off chg wts hld pg w bg (entF F a.toNatClampNeg l.toNatClampNeg k.toNatClampNeg th) → frC M M' → M' 134 0 = entR F a.toNatClampNeg l.toNatClampNeg k.toNatClampNeg th → Q 0 M') : w_L_entry M a l k (bI th) Q := by
  have bad : ∀ c : Int32, cEnt S rdy off bg F a l k th = c → c ≠ 0 → Q c M := fun c e hne => by
    rw [e] at h1; exact h1 M hne hc (frC.rf _)
  refine p_rdy hc.2.1.1 hc.2.1.2.1 (fun h => Or.inl ⟨rfl, bad 1 ?_ (by decide)⟩) (fun h => p_sess (fun g => Or.inr (Or.inl ⟨rfl, bad 2 ?_ (by decide)⟩)) (fun g => p_hasList hc.1 ⟨fun g2 => ?_, fun g2 => Or.inr (Or.inl ⟨rfl, bad 2 ?_ (by decide)⟩)⟩))
  · unfold cEnt; rw [h]; rfl
  · unfold cEnt; rw [h, g]; rfl
  · have g2 := bI_1.mp g2
    obtain ⟨s, hs, rfl⟩ := sesB g
    have vi : vp_in (zN s) 3 := (zN_in (by omega)).mpr hs
    show vp_in _ 3 ∧ _
    rw [zN_nat (by omega), hc.2.1.2.2.2.2.2.2.2 s hs]
    refine ⟨vi, fun g3 => ?_, fun g3 => Or.inl ⟨rfl, bad 1 ?_ (by decide)⟩⟩
    · have g3 := bI_1.mp g3
      have c5 : cEnt S rdy off bg F (zN s) l k th = if decide (l = 0) || (decide (k < 1) || decide (100 < k)) then 3 else if th && ((fi (F (10 + s) l.toNatClampNeg) k).isNone && ((F (10 + s) l.toNatClampNeg).length == 6)) then 4 else 0 := by
        unfold cEnt; rw [h, g, g2, zN_nat (by omega), g3]; rfl
      refine ⟨fun g4 => Or.inr (Or.inr (Or.inl ⟨rfl, bad 3 ?_ (by decide)⟩)), fun g4 => ⟨fun g5 => Or.inr (Or.inr (Or.inl ⟨rfl, bad 3 ?_ (by decide)⟩)), fun g5 => ⟨fun g6 => ⟨vi, ?_⟩, fun g6 => Or.inr (Or.inr (Or.inl ⟨rfl, bad 3 ?_ (by decide)⟩))⟩⟩⟩
      · rw [c5, decide_eq_true g4]; rfl
      · rw [c5, decide_eq_true g5]; simp
      · have c6 : cEnt S rdy off bg F (zN s) l k th = if th && ((fi (F (10 + s) l.toNatClampNeg) k).isNone && ((F (10 + s) l.toNatClampNeg).length == 6)) then 4 else 0 := by
          rw [c5, decide_eq_false g4, decide_eq_false g5, decide_eq_false (fun q => i_nle.mpr q g6)]; rfl
        obtain ⟨s9, l', k', hs9, e9, b2, b1, b0, rfl, bk1, bk2, rfl⟩ := cEnt_3 hk.1 (show cEnt S rdy off bg F (zN s) l k th = 0 ∨ cEnt S rdy off bg F (zN s) l k th = 4 by rw [c6]; split <;> simp)
        rw [zN_nat (by omega), zN_nat (by omega), zN_nat (by omega)] at h0
        rw [zN_nat (by omega)] at c6
        rw [show 83 + 11 * s + 1 = 84 + 11 * s by omega]
        have hA := hk.2.2.2.2.1 (10 + s) (by omega) l' b2
        have hR := hc.ca hs l' b2
        refine p_rowOf b2 hR hA.1.2.2 ?_
        cases hf : fi (F (10 + s) l') (zN k') with
        | none =>
          have eF : entF F s l' k' th = if th then upC F s l' (insL (F (10 + s) l') k') else F := by unfold entF; rw [hf]
          have eR : entR F s l' k' th = bI th := by unfold entR; rw [hf]; cases th <;> rfl
          refine ⟨fun _ => ?_, fun q => absurd rfl q⟩
          rw [hf] at c6
          refine ⟨fun q => ⟨fun q2 => ?_, fun q2 => ?_⟩, fun q => ⟨Or.inl rfl, fun M2 e2 => ?_⟩⟩
          · have hth := bI_1.mp q2
            subst hth
            show vp_in _ 4 ∧ _
            rw [zN_nat (by omega), hR.1, show (6 : Int32) = zN 6 from rfl, zN_lt (by omega) (by omega)]
            refine ⟨(zN_in (by omega)).mpr b2, fun q3 => ?_, fun q3 => Or.inr (Or.inr (Or.inr ⟨rfl, bad 4 ?_ (by decide)⟩))⟩
            · have e0 : cEnt S rdy off bg F (zN s) (zN l') (zN k') true = 0 := by rw [c6, show ((F (10 + s) l').length == 6) = false by simp; omega]; rfl
              refine p_addEntry b2 hR hA.1 (by omega) bk2 (hc.gok (setC_ca hs)) (fun M' a1 a2 a3 a4 => ⟨Or.inr rfl, fun M2 e2 => ?_⟩)
              subst e2
              refine h0 _ e0 ?_ ((a1.fc (setC_ca hs)).s (by omega)) (by rw [sd_s_self, eR]; rfl)
              rw [eF]
              exact (hc.upc (hk.s (by omega)) hs a1 a2 a3 a4).o134
            · rw [c6, show ((F (10 + s) l').length == 6) = true by simp; omega]; rfl
          · have hth := bI_0.mp q2
            rw [hth] at q; exact absurd rfl q
          · have hth : th = false := bI_0.mp q
            subst hth
            subst e2
            refine h0 _ (by rw [c6]; rfl) ?_ ((frC.rf M).s (by omega)) (by rw [sd_s_self, eR]; rfl)
            rw [eF]; exact hc.o134
        | some i =>
          have hi := fi_lt hf
          have eF : entF F s l' k' th = if th then F else upC F s l' ((F (10 + s) l').eraseIdx i) := by unfold entF; rw [hf]
          have eR : entR F s l' k' th = bI (!th) := by unfold entR; rw [hf]; cases th <;> rfl
          rw [hf] at c6
          have e0 : cEnt S rdy off bg F (zN s) (zN l') (zN k') th = 0 := by rw [c6]; simp
          refine ⟨fun q => (zN_m1 (by omega) q).elim, fun _ => ⟨fun q => ⟨fun q2 => ?_, fun q2 => ?_⟩, fun q => ⟨Or.inl rfl, fun M2 e2 => ?_⟩⟩⟩
          · have hth := bI_1.mp q2
            rw [hth] at q; exact absurd rfl q
          · have hth := bI_0.mp q2
            subst hth
            refine p_removeEntry b2 hR hA.1.2.2 hi (fun M' a1 a2 a3 a4 => ⟨Or.inr rfl, fun M2 e2 => ?_⟩)
            subst e2
            refine h0 _ e0 ?_ ((a1.fc (setC_ca hs)).s (by omega)) (by rw [sd_s_self, eR]; rfl)
            rw [eF]
            exact (hc.upc (hk.s (by omega)) hs a1 a2 a3 (a4 (hc.gok (setC_ca hs)))).o134
          · have hth : th = true := by
              cases th with
              | true => rfl
              | false => exact absurd q (by decide)
            subst hth
            subst e2
            refine h0 _ e0 ?_ ((frC.rf M).s (by omega)) (by rw [sd_s_self, eR]; rfl)
            rw [eF]; exact hc.o134
      · rw [c5, decide_eq_true (i_nle.mp g6)]; simp
    · unfold cEnt; rw [h, g, g2, zN_nat (by omega), bI_0.mp g3]; rfl
  · unfold cEnt; rw [h, g, bI_0.mp g2]; rfl
theorem O_entry {S : Sch} {rdy off : Bool} {chg wts : Nat} {hld : Int32} {pg : Nat} {w : Flt} {bg : Nat → Bool} {F : Nat → ASet} {M : sdM} {a l k : Int32} {th : Bool} {t : Nat} (hm : MST M S rdy off chg wts hld pg w bg F) (hk : OKS t S chg wts pg F) {Q : Int32 → sdM → Prop} (h1 : ∀ M' b, cEnt S rdy off bg F a l k th ≠ 0 → MST M' S rdy off chg wts hld pg w bg F → frM M M' → M' 116 0 = cEnt S rdy off bg F a l k th → Q b M') (h0 : ∀ M', cEnt S rdy off bg F a l k th = 0 → MST M' S rdy off chg wts hld pg w bg (entF F a.toNatClampNeg l.toNatClampNeg k.toNatClampNeg th) → frM M M' → M' 116 0 = 0 → Q (entR F a.toNatClampNeg l.toNatClampNeg k.toNatClampNeg th) M') : w_O_entry M a l k (bI th) Q := by
  have bad : ∀ c : Int32, cEnt S rdy off bg F a l k th = c → ¬ c ≤ 0 → k_O_entry_88 Q M a l k (bI th) c := by
    intro e he hne M5 e5
    subst e5
    rw [sd_s_self]
    rw [he] at h1
    exact ⟨fun h => absurd h hne, fun _ => ⟨Or.inl rfl, h1 _ _ (fun h => hne (by rw [h]; decide)) hm.thr ((frM.rf M).s (by omega)) (sd_s_self _ _ _ _)⟩⟩
  have good : cEnt S rdy off bg F a l k th = 0 ∨ cEnt S rdy off bg F a l k th = 4 → (cEnt S rdy off bg F a l k th = if th && ((fi (F (10 + a.toNatClampNeg) l.toNatClampNeg) k).isNone && ((F (10 + a.toNatClampNeg) l.toNatClampNeg).length == 6)) then 4 else 0) → k_O_entry_88 Q M a l k (bI th) 0 := by
    intro hcode c6 M5 e5
    obtain ⟨s, l', k', hs, rfl, b2, b1, b0, rfl, bk1, bk2, rfl⟩ := cEnt_3 hk.1 hcode
    rw [zN_nat (by omega), zN_nat (by omega), zN_nat (by omega)] at h0
    rw [zN_nat (by omega), zN_nat (by omega)] at c6
    have m5 : MST M5 S rdy off chg wts hld pg w bg F := by rw [e5]; exact hm.thr
    have f5 : frM M M5 := by rw [e5]; exact (frM.rf M).s (by omega)
    have t5 : M5 116 0 = 0 := by rw [e5, sd_s_self]
    rw [t5]
    refine ⟨fun _ => ?_, fun h => absurd (by decide) h⟩
    have hA := hk.2.2.2.2.1 (10 + s) (by omega) l' b2
    have hR := m5.2.2 (10 + s) (by omega) l' b2
    rw [show (10 : Int32) = zN 10 from rfl, zN_add]
    refine m_find (by omega) b2 hR hA.1 ?_
    -- what is left, with the answer of the search
    have rest : ∀ (x7 : Int32) (wa : Bool) (c : Int32), cEnt S rdy off bg F (zN s) (zN l') (zN k') th = c → (c = 0 ∨ c = 4) → (wa = (fi (F (10 + s) l') (zN k')).isSome) → (∀ i, fi (F (10 + s) l') (zN k') = some i → x7 = zN (48 * (10 + s) + 12 * l' + i)) → k_O_entry_158 Q M5 (zN s) (zN l') (zN k') (bI th) x7 (bI wa) c := by
      intro x7 wa c ec hc4 ewa ex7 M6 e6
      have m6 : MST M6 S rdy off chg wts hld pg w bg F := by rw [e6]; exact m5.thr
      have f6 : frM M M6 := by rw [e6]; exact f5.s (by omega)
      have t6 : M6 116 0 = c := by rw [e6, sd_s_self]
      have hR6 := m6.2.2 (10 + s) (by omega) l' b2
      rw [t6]
      rcases hc4 with rfl | rfl
      · refine ⟨fun h => absurd h (by decide), fun _ => ⟨fun q => ⟨fun q2 => ?_, fun q2 => ?_⟩, fun q => ⟨Or.inl rfl, ?_⟩⟩⟩
        · have hw := bI_0.mp q2
          rw [hw] at ewa q
          have hth : th = true := by
            cases th with
            | true => rfl
            | false => exact absurd rfl q
          subst hth
          have hf : fi (F (10 + s) l') (zN k') = none := by
            cases e : fi (F (10 + s) l') (zN k') with
            | none => rfl
            | some i => rw [e] at ewa; cases ewa
          rw [hf] at c6
          have hlen : (F (10 + s) l').length ≠ 6 := by
            intro q9
            rw [ec, q9] at c6
            exact absurd c6 (by decide)
          rw [show (10 : Int32) = zN 10 from rfl, zN_add]
          refine m_insert (by omega) b2 hR6 hA.1 (by omega) bk2 (fun M' a1 a2 => ⟨Or.inr rfl, ?_⟩)
          have eF : entF F s l' k' true = upC F s l' (insL (F (10 + s) l') k') := by unfold entF; rw [hf]; rfl
          have eR : entR F s l' k' true = 1 := by unfold entR; rw [hf]; rfl
          have := h0 M' ec (by rw [eF]; exact m6.upc (fun j hj => hk.s hj) hs a1 a2) (f6.tr a1.S.fm) (by rw [a1.1 116 (by omega)]; exact t6)
          rw [eR] at this; exact this
        · have hw := bI_1.mp q2
          rw [hw] at ewa q
          have hth : th = false := by
            cases th with
            | true => exact absurd rfl q
            | false => rfl
          subst hth
          cases hf : fi (F (10 + s) l') (zN k') with
          | none => rw [hf] at ewa; cases ewa
          | some i =>
            rw [ex7 i hf, show (10 : Int32) = zN 10 from rfl, zN_add]
            refine m_remove (by omega) b2 hR6 hA.1.2.2 (fi_lt hf) (fun M' a1 a2 => ⟨Or.inr rfl, ?_⟩)
            have eF : entF F s l' k' false = upC F s l' ((F (10 + s) l').eraseIdx i) := by unfold entF; rw [hf]; rfl
            have eR : entR F s l' k' false = 1 := by unfold entR; rw [hf]; rfl
            have := h0 M' ec (by rw [eF]; exact m6.upc (fun j hj => hk.s hj) hs a1 a2) (f6.tr a1.S.fm) (by rw [a1.1 116 (by omega)]; exact t6)
            rw [eR] at this; exact this
        · have hth := bI_eq.mp q
          have eR : entR F s l' k' th = 0 := by unfold entR; rw [← ewa, ← hth]; cases wa <;> rfl
          have eF : entF F s l' k' th = F := by
            unfold entF
            cases hf : fi (F (10 + s) l') (zN k') with
            | none => rw [hf] at ewa; rw [← hth, ewa]; rfl
            | some i => rw [hf] at ewa; rw [← hth, ewa]; rfl
          have := h0 M6 ec (by rw [eF]; exact m6) f6 t6
          rw [eR] at this; exact this
      · refine ⟨fun _ => ⟨Or.inl rfl, ?_⟩, fun h => absurd (by decide) h⟩
        rw [ec] at h1
        exact h1 M6 0 (by decide) m6 f6 t6
    have c122 : ∀ (x7 : Int32) (wa : Bool), (wa = (fi (F (10 + s) l') (zN k')).isSome) → (∀ i, fi (F (10 + s) l') (zN k') = some i → x7 = zN (48 * (10 + s) + 12 * l' + i)) → k_O_entry_122 Q M5 (zN s) (zN l') (zN k') (bI th) x7 (bI wa) := by
      intro x7 wa ewa ex7
      refine ⟨fun q => rest x7 wa 0 ?_ (Or.inl rfl) ewa ex7, fun q => ⟨fun q2 => rest x7 wa 0 ?_ (Or.inl rfl) ewa ex7, fun q2 => ?_⟩⟩
      · rw [c6, bI_0.mp q]; rfl
      · have := bI_1.mp q2
        rw [this] at ewa
        rw [c6, show (fi (F (10 + s) l') (zN k')).isNone = false by rw [oNone, ← ewa]; rfl]; simp
      · rw [show (10 : Int32) = zN 10 from rfl, zN_add, zN4, zN_nat (by omega), hR.1, show (6 : Int32) = zN 6 from rfl, zN_eq (by omega) (by omega)]
        have hn := bI_0.mp q2
        rw [hn] at ewa
        have hnone : (fi (F (10 + s) l') (zN k')).isNone = true := by rw [oNone, ← ewa]; rfl
        refine ⟨(zN_in (by omega)).mpr (by omega), fun q3 => rest x7 wa 0 ?_ (Or.inl rfl) (by rw [hn]; exact ewa) ex7, fun q3 => rest x7 wa 4 ?_ (Or.inr rfl) (by rw [hn]; exact ewa) ex7⟩
        · rw [c6, bI_1.mp q, hnone, show ((F (10 + s) l').length == 6) = false by simpa using q3]; rfl
        · rw [c6, bI_1.mp q, hnone, q3]; rfl
    cases hf : fi (F (10 + s) l') (zN k') with
    | none => exact ⟨fun _ => c122 _ false (by rw [hf]; rfl) (fun i q => by rw [hf] at q; cases q), fun q => absurd (show (-1 : Int32) < 0 by decide) q⟩
    | some i =>
      have := fi_lt hf
      exact ⟨fun q => (zN_ge (by omega) q).elim, fun _ => c122 _ true (by rw [hf]; rfl) (fun j q => by rw [hf] at q; cases q; rfl)⟩
  have c42 : ∀ x5 s0 : Int32, x5 = bI (isSesB a && isLstB S l) → s0 = bI (!(decide (l = 0) || (decide (k < 1) || decide (100 < k)))) → k_O_entry_42 Q M a l k (bI th) x5 s0 := by
    intro x5 s0 e5 e0
    subst e5; subst e0
    refine m_isDown hm.2.1.1 hm.2.1.2.1 ⟨fun h => ⟨fun g => ?_, fun g => bad 2 ?_ (by decide)⟩, fun h => bad 1 ?_ (by decide)⟩
    · have g := bI_1.mp g
      rw [Bool.and_eq_true] at g
      obtain ⟨s, hs, rfl⟩ := sesB g.1
      rw [zN_nat (by omega), hm.2.1.2.2.2.2.2.2.2.2 s hs]
      refine ⟨(zN_in (by omega)).mpr hs, fun g3 => ⟨fun g4 => bad 3 ?_ (by decide), fun g4 => ?_⟩, fun g3 => bad 1 ?_ (by decide)⟩
      · have g4 := bI_0.mp g4
        rw [Bool.not_eq_false'] at g4
        unfold cEnt; rw [bI_0.mp h, g.1, g.2, zN_nat (by omega), bI_1.mp g3, g4]; rfl
      · have g4 := bI_1.mp g4
        rw [Bool.not_eq_true'] at g4
        have c6 : cEnt S rdy off bg F (zN s) l k th = if th && ((fi (F (10 + (zN s).toNatClampNeg) l.toNatClampNeg) k).isNone && ((F (10 + (zN s).toNatClampNeg) l.toNatClampNeg).length == 6)) then 4 else 0 := by
          unfold cEnt; rw [bI_0.mp h, g.1, g.2, zN_nat (show s < _ by omega), bI_1.mp g3, g4]; rfl
        exact good (by rw [c6]; split <;> simp) c6
      · unfold cEnt; rw [bI_0.mp h, g.1, g.2, zN_nat (by omega), bI_0.mp g3]; rfl
    · have g := bI_0.mp g
      rw [Bool.and_eq_false_iff] at g
      unfold cEnt; rw [bI_0.mp h]
      rcases g with g | g
      · rw [g]; rfl
      · rw [g]; cases isSesB a <;> rfl
    · unfold cEnt; rw [bI_1.mp h]; rfl
  have c20 : ∀ x5 : Int32, x5 = bI (isSesB a && isLstB S l) → k_O_entry_20 Q M a l k (bI th) x5 := by
    intro x5 e5
    refine ⟨fun g4 => c42 x5 0 e5 ?_, fun g4 => ⟨fun g5 => c42 x5 0 e5 ?_, fun g5 => ⟨fun g6 => c42 x5 0 e5 ?_, fun g6 => c42 x5 1 e5 ?_⟩⟩⟩
    · rw [decide_eq_true g4]; rfl
    · rw [decide_eq_true g5]; simp [bI]
    · rw [decide_eq_true g6]; simp [bI]
    · rw [decide_eq_false g4, decide_eq_false g5, decide_eq_false g6]; rfl
  exact m_isSession ⟨fun h => c20 0 (by rw [bI_0.mp h]; rfl), fun h => m_isList hm.1 ⟨fun g => c20 0 (by rw [bI_0.mp g, bI_1.mp h]; rfl), fun g => c20 1 (by rw [bI_1.mp g, bI_1.mp h]; rfl)⟩⟩
theorem fi_no {R : List Row} {k : Nat} (hR : okL R) (hk : k ≤ 100) (h : fi R (zN k) = none) : ∀ r ∈ R, r.1 ≠ k := by
  intro r hr e
  obtain ⟨i, hi⟩ := List.mem_iff_getElem?.mp hr
  rw [fi_some hR hi (by rw [e])] at h; cases h
theorem OKS.ent {t : Nat} {S : Sch} {chg wts pg s l k : Nat} {F : Nat → ASet} {th : Bool} (h : OKS t S chg wts pg F) (hs : s < 3) (hl : l < 4) (hn : l < nlS S) (hk : k ≤ 100) (h6 : ¬ (th = true ∧ fi (F (10 + s) l) (zN k) = none ∧ (F (10 + s) l).length = 6)) : OKS t S chg wts pg (entF F s l k th) := by
  have hA := h.2.2.2.2.1 (10 + s) (by omega) l hl
  unfold entF
  split
  · split
    · exact h
    · refine h.upc hs (okL_era hA.1) (Nat.le_trans (List.length_eraseIdx_le _ _) hA.2.1) (fun r hr => hA.2.2.1 r (List.mem_of_mem_eraseIdx hr)) (fun q => by omega)
  · rename_i hf
    split
    · rename_i ht
      have hne : (F (10 + s) l).length ≠ 6 := fun q => h6 ⟨ht, hf, q⟩
      have := hA.2.1
      refine h.upc hs (okL_ins hA.1 hk (by omega) (fi_no hA.1 hk hf)) (by rw [insL_len]; omega) (fun r hr f hf hle => ?_) (fun q => by omega)
      rcases insL_mem hr with e | e
      · rw [e]; simp [newR]
      · exact hA.2.2.1 r e f hf hle
    · exact h
theorem J_entry {t : Nat} {M : sdM} {a l k : Int32} {th : Bool} (h : INV t M) : w_L_entry M a l k (bI th) (fun c M1 => w_O_entry M1 a l k (bI th) (fun b M2 => goodZ (t + 1) c b M2)) := by
  obtain ⟨S, rdy, off, chg, wts, hld, pg, w, bg, F, hc, hm, hk⟩ := h
  by_cases e : cEnt S rdy off bg F a l k th = 0
  · obtain ⟨s, l', k', hs, rfl, b2, b1, b0, rfl, bk1, bk2, rfl⟩ := cEnt_3 hk.1 (Or.inl e)
    refine joinZ (fun Q a b => C_entry hc hk a b) (fun M1 d Q a b => O_entry d hk a b) hm (fun _ _ d f => d.fc f) (fun _ _ c f => c.fm f) (fun _ _ c f => c.fm f) (fun M' c d => ⟨_, _, _, _, _, _, _, _, _, _, c, d, hk.mono⟩) (fun M' c d => ⟨_, _, _, _, _, _, _, _, _, _, c, d, ?_⟩)
    rw [zN_nat (by omega), zN_nat (by omega), zN_nat (by omega)]
    refine (hk.ent hs b2 b1 bk2 (fun q => ?_)).mono
    unfold cEnt at e
    rw [zN_nat (by omega), zN_nat (by omega), q.1, q.2.1, q.2.2] at e
    split at e
    · cases e
    · split at e
      · cases e
      · split at e
        · cases e
        · split at e
          · cases e
          · split at e
            · cases e
            · exact absurd e (by decide)
  · exact joinZ (C' := fun _ => False) (D' := fun _ => False) (r := 0) (fun Q a b => C_entry hc hk a (fun M' h => (e h).elim)) (fun M1 d Q a b => O_entry d hk a (fun M' h => (e h).elim)) hm (fun _ _ d f => d.fc f) (fun _ _ c f => c.fm f) (fun _ _ c f => c) (fun M' c d => ⟨_, _, _, _, _, _, _, _, _, _, c, d, hk.mono⟩) (fun M' c d => c.elim)
def cTch (S : Sch) (rdy off : Bool) (bg : Nat → Bool) (F : Nat → ASet) (a l k f : Int32) : Int32 := if off || !rdy then 1 else if !isSesB a then 2 else if !isLfB S l f then 2 else if !bg a.toNatClampNeg then 1 else if (fi (F (10 + a.toNatClampNeg) l.toNatClampNeg) k).isNone then 1 else 0
def TF (S : Sch) (F : Nat → ASet) (a l k f : Int32) (s l' f' i : Nat) (r : Row) : Prop := s < 3 ∧ a = zN s ∧ l' < 4 ∧ l' < nlS S ∧ f' < 4 ∧ f' < lvS S l' ∧ l = zN l' ∧ f = zN f' ∧ fi (F (10 + s) l') k = some i ∧ (F (10 + s) l')[i]? = some r
theorem cTch_0 {S : Sch} {rdy off : Bool} {bg : Nat → Bool} {F : Nat → ASet} {a l k f : Int32} (hk : okSch S) (h : cTch S rdy off bg F a l k f = 0) : ∃ s l' f' i r, TF S F a l k f s l' f' i r := by
  unfold cTch at h
  split at h
  · cases h
  · split at h
    · cases h
    · rename_i h2
      split at h
      · cases h
      · rename_i h3
        split at h
        · cases h
        · split at h
          · cases h
          · rename_i h5
            have h2 : isSesB a = true := by simpa using h2
            have h3 : isLfB S l f = true := by simpa using h3
            obtain ⟨s, hs, rfl⟩ := sesB h2
            obtain ⟨l', f', b1, b2, b3, b4, rfl, rfl⟩ := lfB hk h3
            rw [zN_nat (by omega), zN_nat (by omega)] at h5
            cases hf : fi (F (10 + s) l') k with
            | none => rw [hf] at h5; exact absurd rfl h5
            | some i =>
              have hi := fi_lt hf
              exact ⟨s, l', f', i, _, hs, rfl, b2, b1, b4, b3, rfl, rfl, hf, List.getElem?_eq_getElem hi⟩
theorem p_touch {S : Sch} {rdy off : Bool} {chg wts : Nat} {hld : Int32} {pg : Nat} {w : Flt} {bg : Nat → Bool} {F : Nat → ASet} {M : sdM} {a l k f : Int32} {t : Nat} (hc : CST M S rdy off chg wts hld pg w bg F) (hk : OKS t S chg wts pg F) {Q : Int32 → sdM → Prop} {X : String → sdM → Prop} (hX : cTch S rdy off bg F a l k f = 1 → X ISE M) (hX2 : cTch S rdy off bg F a l k f = 2 → X IOB M) (hq : ∀ s l' f' i r, cTch S rdy off bg F a l k f = 0 → TF S F a l k f s l' f' i r → Q (zN (12 * l' + i)) M) : w_D_requireCandidateRow M a l k f Q X := by
  refine p_rdy hc.2.1.1 hc.2.1.2.1 (fun h => hX ?_) (fun h => p_sess (fun g => hX2 ?_) (fun g => p_hasLeaf hc.1 hk.1 ⟨fun g2 => ?_, fun g2 => hX2 ?_⟩))
  · unfold cTch; rw [h]; rfl
  · unfold cTch; rw [h, g]; rfl
  · have g2 := bI_1.mp g2
    obtain ⟨s, hs, rfl⟩ := sesB g
    obtain ⟨l', f', b1, b2, b3, b4, rfl, rfl⟩ := lfB hk.1 g2
    have vi : vp_in (zN s) 3 := (zN_in (by omega)).mpr hs
    show vp_in _ 3 ∧ _
    rw [zN_nat (by omega), hc.2.1.2.2.2.2.2.2.2 s hs]
    refine ⟨vi, fun g3 => ⟨vi, ?_⟩, fun g3 => hX ?_⟩
    · rw [show 83 + 11 * s + 1 = 84 + 11 * s by omega]
      refine p_rowOf b2 (hc.ca hs l' b2) (hk.s (by omega) l' b2).2.2 ?_
      have c5 : cTch S rdy off bg F (zN s) (zN l') k (zN f') = if (fi (F (10 + s) l') k).isNone then 1 else 0 := by
        unfold cTch; rw [h, g, g2, zN_nat (by omega), zN_nat (by omega), bI_1.mp g3]; rfl
      cases hf : fi (F (10 + s) l') k with
      | none => exact ⟨fun q => absurd rfl q, fun _ => hX (by rw [c5, hf]; rfl)⟩
      | some i =>
        have hi := fi_lt hf
        have := (hk.s (show 10 + s < 16 by omega) l' b2).2.2
        exact ⟨fun _ => hq s l' f' i _ (by rw [c5, hf]; rfl) ⟨hs, rfl, b2, b1, b4, b3, rfl, rfl, hf, List.getElem?_eq_getElem hi⟩, fun q => (zN_m1 (by omega) q).elim⟩
    · unfold cTch; rw [h, g, g2, zN_nat (by omega), bI_0.mp g3]; rfl
  · unfold cTch; rw [h, g, bI_0.mp g2]; rfl
theorem m_touch {S : Sch} {rdy off : Bool} {chg wts : Nat} {hld : Int32} {pg : Nat} {w : Flt} {bg : Nat → Bool} {F : Nat → ASet} {M : sdM} {a l k f : Int32} {t : Nat} (hm : MST M S rdy off chg wts hld pg w bg F) (hk : OKS t S chg wts pg F) {Q : Int32 → sdM → Prop} (hq : Q (cTch S rdy off bg F a l k f) M) : w_O_touch M a l k f Q := by
  unfold cTch at hq
  refine m_isDown hm.2.1.1 hm.2.1.2.1 ⟨fun h => ?_, fun h => ?_⟩
  · rw [bI_0.mp h, if_neg (by decide)] at hq
    refine m_isSession ⟨fun g => ?_, fun g => ?_⟩
    · rw [bI_0.mp g] at hq; exact hq
    · rw [bI_1.mp g, if_neg (by decide)] at hq
      refine m_isLeaf hm.1 hk.1 ⟨fun g2 => ?_, fun g2 => ?_⟩
      · obtain ⟨s, hs, rfl⟩ := sesB (bI_1.mp g)
        obtain ⟨l', f', b1, b2, b3, b4, rfl, rfl⟩ := lfB hk.1 (bI_1.mp g2)
        rw [bI_1.mp g2, if_neg (by decide), zN_nat (by omega), zN_nat (by omega)] at hq
        show vp_in _ 3 ∧ _
        rw [zN_nat (by omega), hm.2.1.2.2.2.2.2.2.2.2 s hs]
        refine ⟨(zN_in (by omega)).mpr hs, fun g3 => ?_, fun g3 => ?_⟩
        · rw [bI_0.mp g3] at hq; exact hq
        · rw [bI_1.mp g3, if_neg (by decide)] at hq
          rw [show (10 : Int32) = zN 10 from rfl, zN_add]
          refine m_find (by omega) b2 (hm.2.2 (10 + s) (by omega) l' b2) (hk.s (by omega) l' b2) ?_
          cases hf : fi (F (10 + s) l') k with
          | none => rw [hf] at hq; exact ⟨fun _ => hq, fun q => absurd (show (-1 : Int32) < 0 by decide) q⟩
          | some i =>
            rw [hf] at hq
            have hi := fi_lt hf
            have := (hk.s (show 10 + s < 16 by omega) l' b2).2.2
            exact ⟨fun q => (zN_ge (by omega) q).elim, fun _ => hq⟩
      · rw [bI_0.mp g2] at hq; exact hq
  · rw [bI_1.mp h] at hq; exact hq
theorem RowTo.set {M M' : sdM} {o l i : Nat} {R : List Row} {r : Row} (h : RowTo M M' o (12 * l + i) r) (hR : RCl M o l R) (hi : i < R.length) : RCl M' o l (R.set i r) := by
  refine ⟨by rw [h.cnt, hR.1]; simp, fun j x hx => ?_⟩
  rw [List.getElem?_set] at hx
  by_cases e : i = j
  · subst e
    rw [if_pos rfl, if_pos hi] at hx
    cases hx
    exact h.here
  · rw [if_neg e] at hx
    exact h.oth _ x (by omega) (hR.2 j x hx)
theorem RowToM.set {M M' : sdM} {s l i : Nat} {R : List Row} {r : Row} (h : RowToM M M' (48 * s + 12 * l + i) r) (hR : RMl M s l R) (hi : i < R.length) : RMl M' s l (R.set i r) := by
  refine ⟨by rw [h.2.1, hR.1]; simp, fun j x hx => ?_⟩
  rw [List.getElem?_set] at hx
  by_cases e : i = j
  · subst e
    rw [if_pos rfl, if_pos hi] at hx
    cases hx
    exact h.2.2.1
  · rw [if_neg e] at hx
    exact h.2.2.2 _ x (by omega) (hR.2 j x hx)
def rowF (F : Nat → ASet) (s l : Nat) (k : Int32) (g : Row → Row) : Nat → ASet := match fi (F (10 + s) l) k with
  | none => F
  | some i => match (F (10 + s) l)[i]? with
    | none => F
    | some r => upC F s l ((F (10 + s) l).set i (g r))
theorem rowF_at {F : Nat → ASet} {s l i : Nat} {k : Int32} {g : Row → Row} {r : Row} (h1 : fi (F (10 + s) l) k = some i) (h2 : (F (10 + s) l)[i]? = some r) : rowF F s l k g = upC F s l ((F (10 + s) l).set i (g r)) := by
  unfold rowF; rw [h1]; simp only; rw [h2]
def cSet (S : Sch) (rdy off : Bool) (bg : Nat → Bool) (F : Nat → ASet) (a l k f v : Int32) : Int32 := if cTch S rdy off bg F a l k f = 0 then (if takesB (lfS S (4 * l.toNatClampNeg + f.toNatClampNeg)) v then 0 else 3) else cTch S rdy off bg F a l k f
theorem cTch_v (S : Sch) (rdy off : Bool) (bg : Nat → Bool) (F : Nat → ASet) (a l k f : Int32) : cTch S rdy off bg F a l k f = 0 ∨ cTch S rdy off bg F a l k f = 1 ∨ cTch S rdy off bg F a l k f = 2 := by
  unfold cTch
  repeat' split
  all_goals simp
theorem C_set {S : Sch} {rdy off : Bool} {chg wts : Nat} {hld : Int32} {pg : Nat} {w : Flt} {bg : Nat → Bool} {F : Nat → ASet} {M : sdM} {a l k f v : Int32} {t : Nat} (hc : CST M S rdy off chg wts hld pg w bg F) (hk : OKS t S chg wts pg F) {Q : Int32 → sdM → Prop} (h1 : ∀ M', cSet S rdy off bg F a l k f v ≠ 0 → CST M' S rdy off chg wts hld pg w bg F → frC M M' → Q (cSet S rdy off bg F a l k f v) M') (h0 : ∀ M', cSet S rdy off bg F a l k f v = 0 → CST M' S rdy off chg wts hld pg w bg (rowF F a.toNatClampNeg l.toNatClampNeg k (fun r => giveR r f.toNatClampNeg v)) → frC M M' → Q 0 M') : w_L_set M a l k f v Q := by
  have bad : ∀ c : Int32, cSet S rdy off bg F a l k f v = c → c ≠ 0 → Q c M := fun c e hne => by
    rw [e] at h1; exact h1 M hne hc (frC.rf _)
  unfold w_L_set w_D_set
  refine p_touch hc hk (fun e => ?_) (fun e => ?_) (fun s l' f' i r e hT => ?_)
  · exact Or.inl ⟨rfl, bad 1 (by unfold cSet; rw [e]; rfl) (by decide)⟩
  · exact Or.inr (Or.inl ⟨rfl, bad 2 (by unfold cSet; rw [e]; rfl) (by decide)⟩)
  · obtain ⟨hs, rfl, b2, b1, b4, b3, rfl, rfl, hf, hr⟩ := hT
    rw [zN_nat (by omega), zN_nat (by omega), zN_nat (by omega)] at h0
    have c5 : cSet S rdy off bg F (zN s) (zN l') k (zN f') v = if takesB (lfS S (4 * l' + f')) v then 0 else 3 := by
      unfold cSet; rw [if_pos e, zN_nat (by omega), zN_nat (by omega)]
    have hi := fi_lt hf
    have hok := hk.s (show 10 + s < 16 by omega) l' b2
    have := hok.2.2
    have hR := hc.ca hs l' b2
    refine p_leafAt b2 b4 (p_takes (hc.1.2.2.1 (4 * l' + f') (by omega)) ⟨fun g => ⟨(zN_in (by omega)).mpr hs, ?_⟩, fun g => Or.inr (Or.inr ⟨rfl, bad 3 ?_ (by decide)⟩)⟩)
    · rw [zN_nat (by omega), show 83 + 11 * s + 1 = 84 + 11 * s by omega]
      refine p_give (by omega) b4 (hR.2 i r hr) (hok.1 r (List.mem_of_getElem? hr)).2.1 (fun M' hm' => ?_)
      refine h0 M' (by rw [c5, bI_1.mp g]; rfl) ?_ (hm'.out.fc (setC_ca hs))
      rw [rowF_at hf hr]
      exact hc.upc (hk.s (by omega)) hs hm'.out (hm'.set hR hi) (hm'.kept (by omega)).oth (hm'.g (hc.gok (setC_ca hs)))
    · rw [c5, bI_0.mp g]; rfl
theorem O_set {S : Sch} {rdy off : Bool} {chg wts : Nat} {hld : Int32} {pg : Nat} {w : Flt} {bg : Nat → Bool} {F : Nat → ASet} {M : sdM} {a l k f v : Int32} {t : Nat} (hm : MST M S rdy off chg wts hld pg w bg F) (hk : OKS t S chg wts pg F) {Q : sdM → Prop} (h1 : ∀ M', cSet S rdy off bg F a l k f v ≠ 0 → MST M' S rdy off chg wts hld pg w bg F → frM M M' → M' 116 0 = cSet S rdy off bg F a l k f v → Q M') (h0 : ∀ M', cSet S rdy off bg F a l k f v = 0 → MST M' S rdy off chg wts hld pg w bg (rowF F a.toNatClampNeg l.toNatClampNeg k (fun r => giveR r f.toNatClampNeg v)) → frM M M' → M' 116 0 = 0 → Q M') : w_O_set M a l k f v Q := by
  refine m_touch hm hk (fun M5 e5 => ?_)
  have m5 : MST M5 S rdy off chg wts hld pg w bg F := by rw [e5]; exact hm.thr
  have f5 : frM M M5 := by rw [e5]; exact (frM.rf M).s (by omega)
  have t5 : M5 116 0 = cTch S rdy off bg F a l k f := by rw [e5, sd_s_self]
  rw [t5]
  rcases cTch_v S rdy off bg F a l k f with e | e | e
  · obtain ⟨s, l', f', i, r, hs, rfl, b2, b1, b4, b3, rfl, rfl, hf, hr⟩ := cTch_0 hk.1 e
    rw [zN_nat (by omega), zN_nat (by omega), zN_nat (by omega)] at h0
    rw [e] at t5 ⊢
    refine ⟨fun _ => ?_, fun h => absurd (by decide) h⟩
    have c5 : cSet S rdy off bg F (zN s) (zN l') k (zN f') v = if takesB (lfS S (4 * l' + f')) v then 0 else 3 := by
      unfold cSet; rw [if_pos e, zN_nat (by omega), zN_nat (by omega)]
    have hi := fi_lt hf
    have hok := hk.s (show 10 + s < 16 by omega) l' b2
    have hlen := hok.2.2
    have hR := m5.2.2 (10 + s) (by omega) l' b2
    have hx := m5.1.2.2.1 (4 * l' + f') (by omega)
    have i16 : vp_in (zN (4 * l' + f')) 16 := (zN_in (by omega)).mpr (by omega)
    have no : takesB (lfS S (4 * l' + f')) v = false → k_O_set_89 Q M5 (zN s) (zN l') k (zN f') v 0 := by
      intro ht
      refine ⟨fun h => absurd rfl h, fun _ N1 n1 => ?_⟩
      subst n1
      rw [c5, ht] at h1
      exact h1 _ (by decide) m5.thr (f5.s (by omega)) (sd_s_self _ _ _ _)
    have yes : takesB (lfS S (4 * l' + f')) v = true → k_O_set_89 Q M5 (zN s) (zN l') k (zN f') v 1 := by
      intro ht
      refine ⟨fun _ => ?_, fun h => absurd h (by decide)⟩
      rw [show (10 : Int32) = zN 10 from rfl, zN_add]
      refine m_find (by omega) b2 hR hok ?_
      rw [hf, show rowI (48 * (10 + s) + 12 * l') (some i) = zN (48 * (10 + s) + 12 * l' + i) from rfl]
      rw [zN4, zN_nat (show 48 * (10 + s) + 12 * l' + i < _ by omega), zN_nat (show 4 * (48 * (10 + s) + 12 * l' + i) + f' < _ by omega)]
      have hrow := hR.2 i r hr
      have okr := hok.1 r (List.mem_of_getElem? hr)
      obtain ⟨e0, hc16, hbits⟩ := bitGive r.2.1 okr.2.1 f' b4
      rw [hrow.2.1, e0]
      refine ⟨(zN_in (by omega)).mpr (by omega), (zN_in (by omega)).mpr (by omega), fun N1 n1 => ⟨(zN_in (by omega)).mpr (by omega), fun N2 n2 => ?_⟩⟩
      have hto : RowToM M5 N2 (48 * (10 + s) + 12 * l' + i) (giveR r f' v) := by
        refine ⟨fun c hcc => by rw [n2, sd_s_o (by omega), n1, sd_s_o (by omega)], by rw [n2, sd_s_o (by omega), n1, sd_s_o (by omega)], ⟨?_, ?_, fun g hg hb => ?_⟩, fun c q hne hq => ⟨?_, ?_, fun g hg hb => ?_⟩⟩
        · rw [n2, sd_s_o (by omega), n1, sd_s_o (by omega)]; exact hrow.1
        · rw [n2, sd_s_o (by omega), n1, sd_s_self]; rfl
        · show _ = if g = f' then v else r.2.2 g
          by_cases hgf : g = f'
          · subst hgf; rw [n2, sd_s_self, if_pos rfl]
          · rw [n2, sd_s_ne (by omega), if_neg hgf, n1, sd_s_o (by omega)]
            have hb : (r.2.1 ||| 2 ^ f').testBit g = true := hb
            rw [hbits g hg, show (g == f') = false by simpa using hgf, Bool.or_false] at hb
            exact hrow.2.2 g hg hb
        · rw [n2, sd_s_o (by omega), n1, sd_s_o (by omega)]; exact hq.1
        · rw [n2, sd_s_o (by omega), n1, sd_s_ne hne]; exact hq.2.1
        · rw [n2, sd_s_ne (by omega), n1, sd_s_o (by omega)]; exact hq.2.2 g hg hb
      have fr := hto.fr (by omega) b2 (by omega)
      refine h0 N2 (by rw [c5, ht]; rfl) ?_ (f5.tr fr.S.fm) (by rw [fr.1 116 (by omega)]; exact t5)
      rw [rowF_at hf hr]
      exact m5.upc (fun j hj => hk.s hj) hs fr (hto.set hR hi)
    rw [zN4, zN_nat (show 4 * l' + f' < _ by omega), hx.1, hx.2.1, hx.2.2.1]
    refine ⟨i16, fun g => ⟨i16, fun g2 => no ?_, fun g2 => ⟨i16, fun g3 => no ?_, fun g3 => yes ?_⟩⟩, fun g => ⟨fun g2 => no ?_, fun g2 => ⟨fun g3 => no ?_, fun g3 => yes ?_⟩⟩⟩
    · unfold takesB; rw [bI_0.mp g, if_neg (by decide), decide_eq_false (p := lfLo (lfS S (4 * l' + f')) ≤ v) (i_nle.mpr g2)]; rfl
    · unfold takesB; rw [bI_0.mp g, if_neg (by decide), decide_eq_false (p := v ≤ lfHi (lfS S (4 * l' + f'))) (i_nle.mpr g3), Bool.and_false]
    · unfold takesB; rw [bI_0.mp g, if_neg (by decide), decide_eq_true (i_nlt.mp g2), decide_eq_true (i_nlt.mp g3)]; rfl
    · unfold takesB; rw [bI_1.mp g, if_pos rfl, decide_eq_false (p := 1 ≤ v) (i_nle.mpr g2)]; rfl
    · unfold takesB; rw [bI_1.mp g, if_pos rfl, decide_eq_false (p := v ≤ 100) (i_nle.mpr g3), Bool.and_false]
    · unfold takesB; rw [bI_1.mp g, if_pos rfl, decide_eq_true (i_nlt.mp g2), decide_eq_true (i_nlt.mp g3)]; rfl
  all_goals
    have ec : cSet S rdy off bg F a l k f v = cTch S rdy off bg F a l k f := by unfold cSet; rw [if_neg (by rw [e]; decide)]
    rw [ec, e] at h1
    rw [e] at t5 ⊢
    exact ⟨fun h => absurd h (by decide), fun _ => h1 M5 (by decide) m5 f5 t5⟩
theorem OKS.row {t : Nat} {S : Sch} {chg wts pg s l i : Nat} {F : Nat → ASet} {r q : Row} (h : OKS t S chg wts pg F) (hs : s < 3) (hl : l < 4) (hr : (F (10 + s) l)[i]? = some r) (hq : okR q) (hk : q.1 = r.1) (hb : ∀ g, g < 4 → lvS S l ≤ g → q.2.1.testBit g = false) : OKS t S chg wts pg (upC F s l ((F (10 + s) l).set i q)) := by
  have hA := h.2.2.2.2.1 (10 + s) (by omega) l hl
  refine h.upc hs (okL_set hA.1 hr hq hk) (by simpa using hA.2.1) (fun x hx g hg hle => ?_) (fun q9 => ?_)
  · rcases List.mem_or_eq_of_mem_set hx with hx | hx
    · exact hA.2.2.1 x hx g hg hle
    · rw [hx]; exact hb g hg hle
  · rw [hA.2.2.2 q9] at hr; simp at hr
theorem cSet_0 {S : Sch} {rdy off : Bool} {bg : Nat → Bool} {F : Nat → ASet} {a l k f v : Int32} (h : cSet S rdy off bg F a l k f v = 0) : cTch S rdy off bg F a l k f = 0 := by
  unfold cSet at h
  by_cases e : cTch S rdy off bg F a l k f = 0
  · exact e
  · rw [if_neg e] at h; exact h
theorem J_set {t : Nat} {M : sdM} {a l k f v : Int32} (h : INV t M) : w_L_set M a l k f v (fun c M1 => w_O_set M1 a l k f v (fun M2 => M2 116 0 = c ∧ INV (t + 1) M2)) := by
  obtain ⟨S, rdy, off, chg, wts, hld, pg, w, bg, F, hc, hm, hk⟩ := h
  by_cases e : cSet S rdy off bg F a l k f v = 0
  · obtain ⟨s, l', f', i, r, hs, rfl, b2, b1, b4, b3, rfl, rfl, hf, hr⟩ := cTch_0 hk.1 (cSet_0 e)
    refine joinV (fun Q a b => C_set hc hk a b) (fun M1 d Q a b => O_set d hk a b) hm (fun _ _ d f => d.fc f) (fun _ _ c f => c.fm f) (fun _ _ c f => c.fm f) (fun M' c d => ⟨_, _, _, _, _, _, _, _, _, _, c, d, hk.mono⟩) (fun M' c d => ⟨_, _, _, _, _, _, _, _, _, _, c, d, ?_⟩)
    rw [zN_nat (by omega), zN_nat (by omega), zN_nat (by omega), rowF_at hf hr]
    have hA := hk.2.2.2.2.1 (10 + s) (by omega) l' b2
    have okr := hA.1.1 r (List.mem_of_getElem? hr)
    obtain ⟨-, hc16, hbits⟩ := bitGive r.2.1 okr.2.1 f' b4
    refine (hk.row (q := giveR r f' v) hs b2 hr ⟨okr.1, hc16, fun g hg => ?_⟩ rfl (fun g hg hle => ?_)).mono
    · show (if g = f' then v else r.2.2 g) = 0
      rw [if_neg, okr.2.2 g]
      · intro q
        refine hg ⟨q.1, ?_⟩
        show (r.2.1 ||| 2 ^ f').testBit g = true
        rw [hbits g q.1, q.2]; rfl
      · intro q
        subst q
        refine hg ⟨b4, ?_⟩
        show (r.2.1 ||| 2 ^ g).testBit g = true
        rw [hbits g b4]; simp
    · show (r.2.1 ||| 2 ^ f').testBit g = false
      rw [hbits g hg, hA.2.2.1 r (List.mem_of_getElem? hr) g hg hle, show (g == f') = false by simp; omega]; rfl
  · exact joinV (C' := fun _ => False) (D' := fun _ => False) (fun Q a b => C_set hc hk a (fun M' h => (e h).elim)) (fun M1 d Q a b => O_set d hk a (fun M' h => (e h).elim)) hm (fun _ _ d f => d.fc f) (fun _ _ c f => c.fm f) (fun _ _ c f => c) (fun M' c d => ⟨_, _, _, _, _, _, _, _, _, _, c, d, hk.mono⟩) (fun M' c d => c.elim)
/-- the bits without the leaf f -/
def dropB (b f : Nat) : Nat := b &&& (15 - 2 ^ f)
theorem dropB_spec : ∀ b, b < 16 → ∀ f, f < 4 → (zN b &&& (((1 : Int32) <<< (zN f &&& 31)) ^^^ (-1 : Int32)) = zN (dropB b f) ∧ dropB b f < 16 ∧ (∀ g, g < 4 → (dropB b f).testBit g = (b.testBit g && !(g == f)))) := by unfold dropB; decide
def unR (f : Nat) (r : Row) : Row := dropR r (dropB r.2.1 f) f
def wasU (F : Nat → ASet) (s l : Nat) (k : Int32) (f : Nat) : Bool := lvB (atR (F (10 + s) l) (fi (F (10 + s) l) k)) f
theorem C_unset {S : Sch} {rdy off : Bool} {chg wts : Nat} {hld : Int32} {pg : Nat} {w : Flt} {bg : Nat → Bool} {F : Nat → ASet} {M : sdM} {a l k f : Int32} {t : Nat} (hc : CST M S rdy off chg wts hld pg w bg F) (hk : OKS t S chg wts pg F) {Q : Int32 → sdM → Prop} (h1 : ∀ M', cTch S rdy off bg F a l k f ≠ 0 → CST M' S rdy off chg wts hld pg w bg F → frC M M' → Q (cTch S rdy off bg F a l k f) M') (h0 : ∀ M', cTch S rdy off bg F a l k f = 0 → CST M' S rdy off chg wts hld pg w bg (rowF F a.toNatClampNeg l.toNatClampNeg k (unR f.toNatClampNeg)) → frC M M' → M' 134 0 = bI (wasU F a.toNatClampNeg l.toNatClampNeg k f.toNatClampNeg) → Q 0 M') : w_L_unset M a l k f Q := by
  unfold w_L_unset w_D_unset
  refine p_touch hc hk (fun e => ?_) (fun e => ?_) (fun s l' f' i r e hT => ?_)
  · rw [e] at h1; exact Or.inl ⟨rfl, h1 M (by decide) hc (frC.rf _)⟩
  · rw [e] at h1; exact Or.inr ⟨rfl, h1 M (by decide) hc (frC.rf _)⟩
  · obtain ⟨hs, rfl, b2, b1, b4, b3, rfl, rfl, hf, hr⟩ := hT
    rw [zN_nat (by omega), zN_nat (by omega), zN_nat (by omega)] at h0
    have hi := fi_lt hf
    have hok := hk.s (show 10 + s < 16 by omega) l' b2
    have := hok.2.2
    have hR := hc.ca hs l' b2
    have okr := hok.1 r (List.mem_of_getElem? hr)
    refine ⟨(zN_in (by omega)).mpr hs, ?_⟩
    rw [zN_nat (by omega), show 83 + 11 * s + 1 = 84 + 11 * s by omega]
    refine p_isGiven (hR.row hok b2 hr) b4 (p_drop (by omega) b4 (hR.2 i r hr) okr.2.1 (fun M' c hc16 hbits hm' => ⟨bI_B _, fun M2 e2 => ?_⟩))
    obtain ⟨-, d2, d3⟩ := dropB_spec r.2.1 okr.2.1 f' b4
    have ec : c = dropB r.2.1 f' := bits_ext _ hc16 _ d2 (fun g hg => by rw [hbits g hg, d3 g hg])
    subst ec
    have ew : wasU F s l' k f' = lvB (some r) f' := by unfold wasU; rw [hf, show atR (F (10 + s) l') (some i) = (F (10 + s) l')[i]? from rfl, hr]
    have er : (if bI (lvB (some r) f') = 0 then (0 : Int32) else 1) = bI (lvB (some r) f') := by cases lvB (some r) f' <;> rfl
    rw [er] at e2
    subst e2
    refine h0 _ e ?_ ((hm'.out.fc (setC_ca hs)).s (by omega)) (by rw [sd_s_self, ew])
    rw [rowF_at hf hr]
    exact (hc.upc (hk.s (by omega)) hs hm'.out (hm'.set hR hi) (hm'.kept (by omega)).oth (hm'.g (hc.gok (setC_ca hs)))).o134
theorem O_unset {S : Sch} {rdy off : Bool} {chg wts : Nat} {hld : Int32} {pg : Nat} {w : Flt} {bg : Nat → Bool} {F : Nat → ASet} {M : sdM} {a l k f : Int32} {t : Nat} (hm : MST M S rdy off chg wts hld pg w bg F) (hk : OKS t S chg wts pg F) {Q : Int32 → sdM → Prop} (h1 : ∀ M' b, cTch S rdy off bg F a l k f ≠ 0 → MST M' S rdy off chg wts hld pg w bg F → frM M M' → M' 116 0 = cTch S rdy off bg F a l k f → Q b M') (h0 : ∀ M', cTch S rdy off bg F a l k f = 0 → MST M' S rdy off chg wts hld pg w bg (rowF F a.toNatClampNeg l.toNatClampNeg k (unR f.toNatClampNeg)) → frM M M' → M' 116 0 = 0 → Q (bI (wasU F a.toNatClampNeg l.toNatClampNeg k f.toNatClampNeg)) M') : w_O_unset M a l k f Q := by
  refine m_touch hm hk (fun M5 e5 => ?_)
  have m5 : MST M5 S rdy off chg wts hld pg w bg F := by rw [e5]; exact hm.thr
  have f5 : frM M M5 := by rw [e5]; exact (frM.rf M).s (by omega)
  have t5 : M5 116 0 = cTch S rdy off bg F a l k f := by rw [e5, sd_s_self]
  rw [t5]
  rcases cTch_v S rdy off bg F a l k f with e | e | e
  · obtain ⟨s, l', f', i, r, hs, rfl, b2, b1, b4, b3, rfl, rfl, hf, hr⟩ := cTch_0 hk.1 e
    rw [zN_nat (by omega), zN_nat (by omega), zN_nat (by omega)] at h0
    rw [e] at t5 ⊢
    refine ⟨fun _ => ?_, fun h => absurd (by decide) h⟩
    have hi := fi_lt hf
    have hok := hk.s (show 10 + s < 16 by omega) l' b2
    have hlen := hok.2.2
    have hR := m5.2.2 (10 + s) (by omega) l' b2
    have ew : wasU F s l' k f' = lvB (some r) f' := by unfold wasU; rw [hf, show atR (F (10 + s) l') (some i) = (F (10 + s) l')[i]? from rfl, hr]
    rw [show (10 : Int32) = zN 10 from rfl, zN_add]
    refine m_find (by omega) b2 hR hok ?_
    rw [hf, show rowI (48 * (10 + s) + 12 * l') (some i) = zN (48 * (10 + s) + 12 * l' + i) from rfl]
    refine m_isSet (hR.row hok (by omega) b2 hr) b4 ?_
    have hrow := hR.2 i r hr
    have okr := hok.1 r (List.mem_of_getElem? hr)
    obtain ⟨d1, d2, d3⟩ := dropB_spec r.2.1 okr.2.1 f' b4
    rw [zN_nat (show 48 * (10 + s) + 12 * l' + i < _ by omega), hrow.2.1, d1]
    refine ⟨(zN_in (by omega)).mpr (by omega), (zN_in (by omega)).mpr (by omega), fun N1 n1 => ⟨bI_B _, ?_⟩⟩
    have hto : RowToM M5 N1 (48 * (10 + s) + 12 * l' + i) (unR f' r) := by
      refine ⟨fun c hcc => by rw [n1, sd_s_o (by omega)], by rw [n1, sd_s_o (by omega)], ⟨?_, ?_, fun g hg hb => ?_⟩, fun c q hne hq => ⟨?_, ?_, fun g hg hb => ?_⟩⟩
      · rw [n1, sd_s_o (by omega)]; exact hrow.1
      · rw [n1, sd_s_self]; rfl
      · show _ = if g = f' then 0 else r.2.2 g
        have hb : (dropB r.2.1 f').testBit g = true := hb
        rw [d3 g hg, Bool.and_eq_true] at hb
        have hgf : g ≠ f' := by simpa using hb.2
        rw [if_neg hgf, n1, sd_s_o (by omega)]
        exact hrow.2.2 g hg hb.1
      · rw [n1, sd_s_o (by omega)]; exact hq.1
      · rw [n1, sd_s_ne hne]; exact hq.2.1
      · rw [n1, sd_s_o (by omega)]; exact hq.2.2 g hg hb
    have fr := hto.fr (by omega) b2 (by omega)
    rw [ew] at h0
    refine h0 N1 e ?_ (f5.tr fr.S.fm) (by rw [fr.1 116 (by omega)]; exact t5)
    rw [rowF_at hf hr]
    exact m5.upc (fun j hj => hk.s hj) hs fr (hto.set hR hi)
  all_goals
    rw [e] at h1
    rw [e] at t5 ⊢
    exact ⟨fun h => absurd h (by decide), fun _ => ⟨Or.inl rfl, h1 M5 _ (by decide) m5 f5 t5⟩⟩
theorem J_unset {t : Nat} {M : sdM} {a l k f : Int32} (h : INV t M) : w_L_unset M a l k f (fun c M1 => w_O_unset M1 a l k f (fun b M2 => goodZ (t + 1) c b M2)) := by
  obtain ⟨S, rdy, off, chg, wts, hld, pg, w, bg, F, hc, hm, hk⟩ := h
  by_cases e : cTch S rdy off bg F a l k f = 0
  · obtain ⟨s, l', f', i, r, hs, rfl, b2, b1, b4, b3, rfl, rfl, hf, hr⟩ := cTch_0 hk.1 e
    refine joinZ (fun Q a b => C_unset hc hk a b) (fun M1 d Q a b => O_unset d hk a b) hm (fun _ _ d f => d.fc f) (fun _ _ c f => c.fm f) (fun _ _ c f => c.fm f) (fun M' c d => ⟨_, _, _, _, _, _, _, _, _, _, c, d, hk.mono⟩) (fun M' c d => ⟨_, _, _, _, _, _, _, _, _, _, c, d, ?_⟩)
    rw [zN_nat (by omega), zN_nat (by omega), zN_nat (by omega), rowF_at hf hr]
    have hA := hk.2.2.2.2.1 (10 + s) (by omega) l' b2
    have okr := hA.1.1 r (List.mem_of_getElem? hr)
    obtain ⟨d1, d2, d3⟩ := dropB_spec r.2.1 okr.2.1 f' b4
    refine (hk.row (q := unR f' r) hs b2 hr ⟨okr.1, d2, fun g hg => ?_⟩ rfl (fun g hg hle => ?_)).mono
    · show (if g = f' then 0 else r.2.2 g) = 0
      by_cases hgf : g = f'
      · rw [if_pos hgf]
      · rw [if_neg hgf, okr.2.2 g]
        intro q
        refine hg ⟨q.1, ?_⟩
        show (dropB r.2.1 f').testBit g = true
        rw [d3 g q.1, q.2, show (g == f') = false by simpa using hgf]; rfl
    · show (dropB r.2.1 f').testBit g = false
      rw [d3 g hg, hA.2.2.1 r (List.mem_of_getElem? hr) g hg hle]; rfl
  · exact joinZ (C' := fun _ => False) (D' := fun _ => False) (r := 0) (fun Q a b => C_unset hc hk a (fun M' h => (e h).elim)) (fun M1 d Q a b => O_unset d hk a (fun M' h => (e h).elim)) hm (fun _ _ d f => d.fc f) (fun _ _ c f => c.fm f) (fun _ _ c f => c) (fun M' c d => ⟨_, _, _, _, _, _, _, _, _, _, c, d, hk.mono⟩) (fun M' c d => c.elim)
theorem joinJ' {S : Sch} {rdy off : Bool} {chg wts : Nat} {hld : Int32} {pg : Nat} {w : Flt} {bg : Nat → Bool} {F : Nat → ASet} {t : Nat} {M : sdM} {W : (Int32 → sdM → Prop) → Prop} {V : sdM → (Int32 → sdM → Prop) → Prop} {code : Int32}
    (hC : ∀ Q : Int32 → sdM → Prop, (∀ M', code ≠ 0 → CST M' S rdy off chg wts hld pg w bg F → frC M M' → Q code M') → W Q)
    (hD : ∀ M1, MST M1 S rdy off chg wts hld pg w bg F → ∀ Q : Int32 → sdM → Prop, (∀ M' b, code ≠ 0 → MST M' S rdy off chg wts hld pg w bg F → frM M1 M' → M' 116 0 = code → Q b M') → V M1 Q)
    (hc : code ≠ 0) (d0 : MST M S rdy off chg wts hld pg w bg F) (hk : OKS t S chg wts pg F) :
    W (fun k M1 => V M1 (fun b M2 => goodJ (t + 1) k b M2)) := by
  refine hC _ (fun M1 _ c1 f1 => ?_)
  exact hD M1 (d0.fc f1) _ (fun M2 b _ d2 f2 ht => ⟨ht, fun h => (hc h).elim, _, _, _, _, _, _, _, _, _, _, c1.fm f2, d2, hk.mono⟩)
theorem joinZ' {S : Sch} {rdy off : Bool} {chg wts : Nat} {hld : Int32} {pg : Nat} {w : Flt} {bg : Nat → Bool} {F : Nat → ASet} {t : Nat} {M : sdM} {W : (Int32 → sdM → Prop) → Prop} {V : sdM → (Int32 → sdM → Prop) → Prop} {code : Int32}
    (hC : ∀ Q : Int32 → sdM → Prop, (∀ M', code ≠ 0 → CST M' S rdy off chg wts hld pg w bg F → frC M M' → Q code M') → W Q)
    (hD : ∀ M1, MST M1 S rdy off chg wts hld pg w bg F → ∀ Q : Int32 → sdM → Prop, (∀ M' b, code ≠ 0 → MST M' S rdy off chg wts hld pg w bg F → frM M1 M' → M' 116 0 = code → Q b M') → V M1 Q)
    (hc : code ≠ 0) (d0 : MST M S rdy off chg wts hld pg w bg F) (hk : OKS t S chg wts pg F) :
    W (fun k M1 => V M1 (fun b M2 => goodZ (t + 1) k b M2)) := by
  refine hC _ (fun M1 _ c1 f1 => ?_)
  exact hD M1 (d0.fc f1) _ (fun M2 b _ d2 f2 ht => ⟨⟨ht, fun h => (hc h).elim, _, _, _, _, _, _, _, _, _, _, c1.fm f2, d2, hk.mono⟩, fun h => (hc h).elim⟩)
theorem CST.c0 {S : Sch} {rdy off : Bool} {chg wts : Nat} {hld : Int32} {pg : Nat} {w : Flt} {bg : Nat → Bool} {F : Nat → ASet} {M M' : sdM} {off' : Bool} {wts' : Nat} {hld' : Int32} {pg' : Nat} (hc : CST M S rdy off chg wts hld pg w bg F) (he : ∀ c, c ≠ 0 → c < 116 → M' c = M c) (h7 : M' 0 7 = M 0 7) (h8 : M' 0 8 = zN wts') (h9 : M' 0 9 = hld') (h10 : M' 0 10 = bI off') (h11 : M' 0 11 = pgI pg') : CST M' S rdy off' chg wts' hld' pg' w bg F := by
  refine ⟨?_, ?_, hc.2.2.fr (fun c h => he c (by have := h.1; omega) h.2.1)⟩
  · obtain ⟨h1, h2, h3, h4, h5⟩ := hc.1
    refine ⟨by rw [he 1 (by omega) (by omega)]; exact h1, fun l hl => by rw [he 2 (by omega) (by omega)]; exact h2 l hl, fun i hi => ?_, by rw [he 1 (by omega) (by omega)]; exact h4, fun r hr => ?_⟩
    · unfold leafC; rw [he (5 + i) (by omega) (by omega)]; exact h3 i hi
    · unfold ruleC; rw [he (21 + r) (by omega) (by omega)]; exact h5 r hr
  · obtain ⟨g1, g2, g3, g4, g5, g6, g7, g8⟩ := hc.2.1
    refine ⟨by rw [he 1 (by omega) (by omega)]; exact g1, h10, by rw [h7]; exact g3, h8, h9, h11, by rw [he 42 (by omega) (by omega)]; exact g7, fun s hs => by rw [he _ (by omega) (by omega)]; exact g8 s hs⟩
theorem MST.c0 {S : Sch} {rdy off : Bool} {chg wts : Nat} {hld : Int32} {pg : Nat} {w : Flt} {bg : Nat → Bool} {F : Nat → ASet} {M M' : sdM} {off' : Bool} {wts' : Nat} {hld' : Int32} {pg' : Nat} {w' : Flt} (hm : MST M S rdy off chg wts hld pg w bg F) (he : ∀ c, 117 ≤ c → c ≤ 133 → M' c = M c) (hj : ∀ j, 0 < j → j < 23 → M' 116 j = M 116 j) (h23 : M' 116 23 = hld') (h24 : M' 116 24 = zN wts') (h25 : M' 116 25 = bI off') (h26 : M' 116 26 = zN pg') (hw : M' 116 27 = w'.1 ∧ M' 116 28 = w'.2.1 ∧ M' 116 29 = w'.2.2.1 ∧ M' 116 30 = w'.2.2.2) : MST M' S rdy off' chg wts' hld' pg' w' bg F := by
  refine ⟨hm.1.fr (fun c h1 h2 => he c (by omega) (by omega)) (hj 2 (by omega) (by omega)) (hj 10 (by omega) (by omega)), ?_, fun j hj' => (hm.2.2 j hj').fr (fun c h1 h2 => he c (by omega) (by omega))⟩
  obtain ⟨g1, g2, g3, g4, g5, g6, g7, g8, g9⟩ := hm.2.1
  exact ⟨by rw [hj 1 (by omega) (by omega)]; exact g1, h25, by rw [hj 21 (by omega) (by omega)]; exact g3, by rw [hj 20 (by omega) (by omega)]; exact g4, h24, h23, h26, hw, by rw [he 133 (by omega) (by omega)]; exact g9⟩
theorem CST.c42 {S : Sch} {rdy off : Bool} {chg wts : Nat} {hld : Int32} {pg : Nat} {w : Flt} {bg : Nat → Bool} {F : Nat → ASet} {M : sdM} {w' : Flt} (hc : CST M S rdy off chg wts hld pg w bg F) : CST (noted M 42 w') S rdy off chg wts hld pg w' bg F := by
  have he : ∀ c, c ≠ 42 → noted M 42 w' c = M c := fun c h => by unfold noted; rw [sd_s_o h, sd_s_o h, sd_s_o h, sd_s_o h]
  refine ⟨hc.1.fr (fun c h => he c (by omega)), ?_, hc.2.2.fr (fun c h => he c h.2.2.1)⟩
  obtain ⟨g1, g2, g3, g4, g5, g6, g7, g8⟩ := hc.2.1
  refine ⟨by rw [he 1 (by omega)]; exact g1, by rw [he 0 (by omega)]; exact g2, by rw [he 0 (by omega)]; exact g3, by rw [he 0 (by omega)]; exact g4, by rw [he 0 (by omega)]; exact g5, by rw [he 0 (by omega)]; exact g6, ⟨?_, ?_, ?_, ?_⟩, fun s hs => by rw [he _ (by omega)]; exact g8 s hs⟩
  · unfold noted; rw [sd_s_ne (by omega), sd_s_ne (by omega), sd_s_ne (by omega), sd_s_self]
  · unfold noted; rw [sd_s_ne (by omega), sd_s_ne (by omega), sd_s_self]
  · unfold noted; rw [sd_s_ne (by omega), sd_s_self]
  · unfold noted; rw [sd_s_self]
/-- the running set becomes A -/
def shiftF (F : Nat → ASet) (A : ASet) : Nat → ASet := fun j => if j = 0 then A else if j = 2 then F 0 else if 3 ≤ j ∧ j ≤ 9 then F (j - 1) else F j
theorem xor8 {n : Nat} (h : n < 2147483648) : (0 : Int32) ≤ zN n ^^^ 8 := by
  rw [Int32.le_iff_toInt_le]
  have e : (zN n ^^^ (8 : Int32)).toBitVec = BitVec.ofNat 32 n ^^^ 8#32 := rfl
  have : (zN n ^^^ (8 : Int32)).toInt = (BitVec.ofNat 32 n ^^^ 8#32).toInt := rfl
  rw [this]
  have hm : (BitVec.ofNat 32 n ^^^ 8#32).msb = false := by
    rw [BitVec.msb_xor]
    have h1 : (BitVec.ofNat 32 n).msb = false := by
      rw [BitVec.msb_eq_false_iff_two_mul_lt, BitVec.toNat_ofNat, Nat.mod_eq_of_lt (by omega)]; omega
    have h2 : (8#32).msb = false := by decide
    rw [h1, h2]; rfl
  have := BitVec.toInt_eq_toNat_of_msb hm
  rw [this, show (0 : Int32).toInt = 0 from rfl]
  omega
theorem p_fmod {M : sdM} {n : Nat} {Q : Int32 → sdM → Prop} (h : n < 2147483648) (hq : Q (zN (n % 8)) M) : w_JM_floorMod M (zN n) 8 Q := by
  refine ⟨by decide, fun _ => ?_, fun h9 => (h9 (xor8 h)).elim⟩
  show Q (zN n - zN n / 8 * 8) M
  rw [show (8 : Int32) = zN 8 from rfl, zN_div h (by omega) (by omega), zN_mul, zN_sub (by omega), show n - n / 8 * 8 = n % 8 by omega]
  exact hq
theorem C_change {S : Sch} {rdy off : Bool} {chg wts : Nat} {hld : Int32} {pg : Nat} {w : Flt} {bg : Nat → Bool} {F : Nat → ASet} {M : sdM} {p : Nat} {A : ASet} {Q : Int32 → sdM → Prop} (hc : CST M S rdy off chg wts hld pg w bg F) (hchg : chg < 1000000) (o0 : okS (F 0)) (sp : setC p) (hA : RC M p A) (oA : okS A) (n1 : p ≠ 25) (n2 : p ≠ 43 + 5 * (chg % 8)) (h0 : sameS (F 0) A = true → Q 0 M) (h1 : sameS (F 0) A = false → ∀ M', CST M' S rdy off (chg + 1) wts hld pg w bg (shiftF F A) → RC M' p A → frC M M' → Q 1 M') : w_D_changeTo M p Q := by
  have r25 : RC M 25 (F 0) := hc.2.2.1 0 (by omega) (by omega)
  have s25 : setC 25 := Or.inl rfl
  have sq : setC (43 + 5 * (chg % 8)) := Or.inr (Or.inr (Or.inr (Or.inl ⟨chg % 8, Nat.mod_lt _ (by omega), rfl⟩)))
  refine p_sameAs r25 hA o0 oA ⟨fun g => ?_, fun g => ⟨Or.inl rfl, h0 (bI_1.mp g)⟩⟩
  rw [hc.2.1.2.2.1]
  refine p_fmod (by omega) ⟨(zN_in (by omega)).mpr (Nat.mod_lt _ (by omega)), ?_⟩
  rw [zN_nat (by omega)]
  refine p_copyFrom (sq.dis s25 (by omega)) r25 o0 (hc.gok s25) (fun M1 a1 a2 a3 => ?_)
  have pA : RC M1 p A := a1.RC (sq.dis sp (Ne.symm n2)) hA
  have pg' : gOK M1 p := a1.gOK (sq.dis sp (Ne.symm n2)) (hc.gok sp)
  refine p_copyFrom (s25.dis sp (Ne.symm n1)) pA oA pg' (fun M2 b1 b2 b3 M3 e3 => ⟨Or.inr rfl, ?_⟩)
  have v2 : CV M2 rdy off chg wts hld pg w bg := b1.cv s25 (a1.cv sq hc.2.1)
  rw [v2.2.2.1, zN_succ] at e3
  have o3 : ∀ c, c ≠ 0 → M3 c = M2 c := fun c h => by rw [e3, sd_s_o h]
  have f3 : frC M M3 := by rw [e3]; exact ((a1.fc sq).tr (b1.fc s25)).s (by omega)
  have keep : ∀ o B, setC o → o ≠ 43 + 5 * (chg % 8) → o ≠ 25 → RC M o B → RC M3 o B := fun o B so x1 x2 hB => (b1.RC (s25.dis so (Ne.symm x2)) (a1.RC (sq.dis so (Ne.symm x1)) hB)).fr (fun c y1 y2 => o3 c (by omega))
  refine h1 (bI_0.mp g) M3 ⟨?_, ?_, ⟨fun j hj hv => ?_, fun o so => ?_⟩⟩ (keep p A sp n2 n1 hA) f3
  · have := b1.sc s25 (a1.sc sq hc.1)
    obtain ⟨h1, h2, h3, h4, h5⟩ := this
    refine ⟨by rw [o3 1 (by omega)]; exact h1, fun l hl => by rw [o3 2 (by omega)]; exact h2 l hl, fun i hi => ?_, by rw [o3 1 (by omega)]; exact h4, fun r hr => ?_⟩
    · unfold leafC; rw [o3 (5 + i) (by omega)]; exact h3 i hi
    · unfold ruleC; rw [o3 (21 + r) (by omega)]; exact h5 r hr
  · obtain ⟨g1, g2, g3, g4, g5, g6, g7, g8⟩ := v2
    refine ⟨by rw [o3 1 (by omega)]; exact g1, by rw [e3, sd_s_ne (by omega)]; exact g2, by rw [e3, sd_s_self], by rw [e3, sd_s_ne (by omega)]; exact g4, by rw [e3, sd_s_ne (by omega)]; exact g5, by rw [e3, sd_s_ne (by omega)]; exact g6, by rw [o3 42 (by omega)]; exact g7, fun s hs => by rw [o3 _ (by omega)]; exact g8 s hs⟩
  · have fr3 : ∀ {o B}, RC M2 o B → RC M3 o B := fun hB => hB.fr (fun c y1 y2 => o3 c (by omega))
    unfold shiftF
    by_cases j0 : j = 0
    · subst j0
      exact fr3 b2
    · rw [if_neg j0]
      by_cases j2 : j = 2
      · subst j2
        rw [if_pos rfl]
        have ec : cellOf (chg + 1) 2 = 43 + 5 * (chg % 8) := by
          unfold cellOf; rw [if_neg (by omega), if_neg (by omega), if_pos (by omega)]; omega
        rw [ec]
        exact fr3 (b1.RC (s25.dis sq (by omega)) a2)
      · rw [if_neg j2]
        by_cases j9 : 3 ≤ j ∧ j ≤ 9
        · rw [if_pos j9]
          have ec : cellOf (chg + 1) j = cellOf chg (j - 1) := by
            unfold cellOf
            rw [if_neg (by omega), if_neg (by omega), if_pos (by omega), if_neg (by omega), if_neg (by omega), if_pos (by omega)]; congr 2; omega
          have en : cellOf chg (j - 1) ≠ 43 + 5 * (chg % 8) := by
            unfold cellOf
            rw [if_neg (by omega), if_neg (by omega), if_pos (by omega)]; omega
          have en2 : cellOf chg (j - 1) ≠ 25 := by
            unfold cellOf
            rw [if_neg (by omega), if_neg (by omega), if_pos (by omega)]; omega
          rw [ec]
          exact keep _ _ (cellOf_set chg (by omega)) en en2 (hc.2.2.1 (j - 1) (by omega) (by omega))
        · rw [if_neg j9]
          have ec : cellOf (chg + 1) j = cellOf chg j := by
            unfold cellOf
            by_cases j1 : j = 1
            · rw [if_neg j0, if_pos j1, if_neg j0, if_pos j1]
            · rw [if_neg j0, if_neg j1, if_neg (show ¬ j < 10 by omega), if_neg j0, if_neg j1, if_neg (show ¬ j < 10 by omega)]
          have en : cellOf chg j ≠ 43 + 5 * (chg % 8) := by
            unfold cellOf
            rw [if_neg j0]
            split
            · omega
            · rw [if_neg (by omega)]
              split <;> omega
          have en2 : cellOf chg j ≠ 25 := by
            have := cellOf_inj (chg := chg) (i := j) (j := 0) hj (by omega) j0
            exact this
          rw [ec]
          exact keep _ _ (cellOf_set chg hj) en en2 (hc.2.2.1 j hj (by omega))
  · intro i hi
    have : gOK M2 o := by
      by_cases e : o = 25
      · subst e; exact b3
      · refine b1.gOK (s25.dis so (Ne.symm e)) ?_
        by_cases e2 : o = 43 + 5 * (chg % 8)
        · subst e2; exact a3
        · exact a1.gOK (sq.dis so (Ne.symm e2)) (hc.gok so)
    obtain ⟨b, hb, eb⟩ := this i hi
    exact ⟨b, hb, by rw [o3 _ (by omega)]; exact eb⟩
/-- a step of the model's shifting of older sets -/
def shG (F : Nat → ASet) (i : Nat) : Nat → ASet := fun j => if i < j ∧ j ≤ 9 then F (j - 1) else F j
theorem m_become_loop {p : Nat} {M0 : sdM} {A : ASet} {F : Nat → ASet} {Q : Int32 → sdM → Prop} (hF : ∀ j, j < 16 → okS (F j)) (hp : p = 1 ∨ p = 16) (oA : okS A) (hq : ∀ M', outM M0 M' → (∀ j, j < 16 → RM M' j (shiftF F A j)) → RM M' p A → ((8 : Int32) ≤ (M' 116 20) → k_O_become_66 Q M' 8) ∧ (¬ (8 : Int32) ≤ (M' 116 20) → k_O_become_66 Q M' ((M' 116 20) + 1))) : ∀ (d : Nat) (M : sdM), d ≤ 7 → outM M0 M → (∀ j, j < 16 → RM M j (shG F (2 + d) j)) → RM M p A → h_O_become_14 Q (d + 1) M (zN p) (zN (2 + d)) := by
  have oG : ∀ i j, 2 ≤ i → j < 16 → okS (shG F i j) := fun i j hi hj => by
    unfold shG
    split
    · exact hF _ (by omega)
    · exact hF _ hj
  intro d
  induction d with
  | zero =>
    intro M hd ho hR hA
    refine ⟨fun _ => ?_, fun h => absurd ((zN_le (a := 2) (b := 2) (by omega) (by omega)).mpr (by omega)) h⟩
    have e0 : shG F 2 0 = F 0 := by unfold shG; rw [if_neg (by omega)]
    have h0 := hR 0 (by omega)
    rw [Nat.add_zero, e0] at h0
    refine m_copy (a := 0) (b := 2) (by omega) (by omega) (by omega) h0 (hF 0 (by omega)) (fun M1 a1 a2 => ?_)
    have hA1 : RM M1 p A := a1.2 p A (by omega) (by omega) oA hA
    refine m_copy (b := 0) (by omega) (by omega) (by omega) hA1 oA (fun M2 b1 b2 => ?_)
    refine hq M2 ((ho.tr a1.1).tr b1.1) (fun j hj => ?_) (b1.2 p A (by omega) (by omega) oA hA1)
    unfold shiftF
    by_cases j0 : j = 0
    · subst j0; exact b2
    · rw [if_neg j0]
      by_cases j2 : j = 2
      · subst j2
        rw [if_pos rfl]
        exact b1.2 2 _ (by omega) (by omega) (hF 0 (by omega)) a2
      · rw [if_neg j2]
        have hj' := hR j hj
        rw [Nat.add_zero] at hj'
        have := b1.2 j _ (by omega) j0 (oG 2 j (by omega) hj) (a1.2 j _ (by omega) j2 (oG 2 j (by omega) hj) hj')
        unfold shG at this
        by_cases j9 : 3 ≤ j ∧ j ≤ 9
        · rw [if_pos (by omega)] at this; rw [if_pos j9]; exact this
        · rw [if_neg (by omega)] at this; rw [if_neg j9]; exact this
  | succ d ih =>
    intro M hd ho hR hA
    refine ⟨fun h => ?_, fun _ => ?_⟩
    · rw [show (2 : Int32) = zN 2 from rfl, zN_le (by omega) (by omega)] at h; omega
    · rw [show (1 : Int32) = zN 1 from rfl, zN_sub (by omega), show 2 + (d + 1) - 1 = 2 + d by omega]
      have hs := hR (2 + d) (by omega)
      have es : shG F (2 + (d + 1)) (2 + d) = F (2 + d) := by unfold shG; rw [if_neg (by omega)]
      rw [es] at hs
      refine m_copy (by omega) (by omega) (by omega) hs (hF _ (by omega)) (fun M1 a1 a2 => ?_)
      have e9 : zN (2 + (d + 1)) + -zN 1 = zN (2 + d) := by
        rw [← Int32.sub_eq_add_neg, zN_sub (by omega)]
        rfl
      show h_O_become_14 Q (d + 1) M1 (zN p) (zN (2 + (d + 1)) + -zN 1)
      rw [e9]
      refine ih M1 (by omega) (ho.tr a1.1) (fun j hj => ?_) (a1.2 p A (by omega) (by omega) oA hA)
      by_cases ej : j = 2 + (d + 1)
      · subst ej
        unfold shG
        rw [if_pos (by omega)]
        exact a2
      · have := a1.2 j _ (by omega) ej (oG _ j (by omega) hj) (hR j hj)
        unfold shG at this ⊢
        by_cases h1 : 2 + d < j ∧ j ≤ 9
        · rw [if_pos (by omega)] at this; rw [if_pos h1]; exact this
        · rw [if_neg (by omega)] at this; rw [if_neg h1]; exact this
theorem sameS_comm {A B : ASet} (hA : okS A) (hB : okS B) : sameS A B = sameS B A := by
  cases h : sameS A B with
  | true => exact (sameS_of (fun l hl => (sameS_eq hA hB h l hl).symm)).symm
  | false =>
    cases h2 : sameS B A with
    | false => rfl
    | true => rw [sameS_of (fun l hl => (sameS_eq hB hA h2 l hl).symm)] at h; cases h
theorem O_become {S : Sch} {rdy off : Bool} {chg wts : Nat} {hld : Int32} {pg : Nat} {w : Flt} {bg : Nat → Bool} {F : Nat → ASet} {M : sdM} {p : Nat} {A : ASet} {Q : Int32 → sdM → Prop} (hm : MST M S rdy off chg wts hld pg w bg F) (hchg : chg < 1000000) (hF : ∀ j, j < 16 → okS (F j)) (hp : p = 1 ∨ p = 16) (hA : RM M p A) (oA : okS A) (h0 : sameS (F 0) A = true → Q 0 M) (h1 : sameS (F 0) A = false → ∀ M', MST M' S rdy off (chg + 1) wts hld pg w bg (shiftF F A) → RM M' p A → frM M M' → (∀ j, j ≠ 20 → j ≠ 21 → M' 116 j = M 116 j) → Q 1 M') : w_O_become M (zN p) Q := by
  refine m_same (t := 0) (by omega) (by omega) hA (hm.2.2 0 (by omega)) oA (hF 0 (by omega)) ?_
  rw [sameS_comm oA (hF 0 (by omega))]
  refine ⟨fun g => ⟨7 + 1, ?_⟩, fun g => ⟨Or.inl rfl, h0 (bI_1.mp g)⟩⟩
  refine m_become_loop (M0 := M) hF hp oA (fun M1 a1 a2 a3 => ?_) 7 M (by omega) (outM.rf _) (fun j hj => ?_) hA
  · have e116 : M1 116 = M 116 := a1 116 (by omega)
    have fin : ∀ s1 : Int32, s1 = zN (min (chg + 1) 8) → k_O_become_66 Q M1 s1 := by
      intro s1 es M2 e2 M3 e3
      have z21 : M2 116 21 = zN chg := by rw [e2, sd_s_ne (by omega), e116]; exact hm.2.1.2.2.1
      rw [z21, zN_succ] at e3
      have low : ∀ c, c ≠ 116 → M3 c = M1 c := fun c h => by rw [e3, sd_s_o h, e2, sd_s_o h]
      have sl : ∀ j, j ≠ 20 → j ≠ 21 → M3 116 j = M 116 j := fun j x y => by rw [e3, sd_s_ne y, e2, sd_s_ne x, e116]
      refine ⟨Or.inr rfl, h1 (bI_0.mp g) M3 ⟨?_, ?_, fun j hj => ?_⟩ (a3.fr (fun c x y => low c (by omega))) (fun c hcc => ?_) sl⟩
      · exact hm.1.fr (fun c x y => by rw [low c (by omega), a1 c (by omega)]) (sl 2 (by omega) (by omega)) (sl 10 (by omega) (by omega))
      · obtain ⟨g1, g2, g3, g4, g5, g6, g7, g8, g9⟩ := hm.2.1
        refine ⟨by rw [sl 1 (by omega) (by omega)]; exact g1, by rw [sl 25 (by omega) (by omega)]; exact g2, by rw [e3, sd_s_self], by rw [e3, sd_s_ne (by omega), e2, sd_s_self]; exact es, by rw [sl 24 (by omega) (by omega)]; exact g5, by rw [sl 23 (by omega) (by omega)]; exact g6, by rw [sl 26 (by omega) (by omega)]; exact g7, ?_, fun s hs => by rw [low 133 (by omega), a1 133 (by omega)]; exact g9 s hs⟩
        rw [sl 27 (by omega) (by omega), sl 28 (by omega) (by omega), sl 29 (by omega) (by omega), sl 30 (by omega) (by omega)]
        exact g8
      · exact (a2 j hj).fr (fun c x y => low c (by omega))
      · rw [low c (by omega), a1 c (by omega)]
    have z20 : M1 116 20 = zN (min chg 8) := by rw [e116]; exact hm.2.1.2.2.2.1
    rw [z20, show (8 : Int32) = zN 8 from rfl, zN_le (by omega) (by omega)]
    refine ⟨fun h => fin _ ?_, fun h => fin _ ?_⟩
    · rw [show min (chg + 1) 8 = 8 by omega]
    · rw [zN_succ]; congr 1; omega
  · have e : shG F 9 j = F j := by unfold shG; rw [if_neg (by omega)]
    rw [show 2 + 7 = 9 from rfl, e]
    exact hm.2.2 j hj
theorem OKS.shift {t : Nat} {S : Sch} {chg wts wts' pg : Nat} {F : Nat → ASet} {A : ASet} (h : OKS t S chg wts pg F) (hA : okA S A) (hw : wts' ≤ 1000) (hs : sameS (F 0) A = false) : OKS (t + 1) S (chg + 1) wts' pg (shiftF F A) := by
  refine ⟨h.1, by have := h.2.1; omega, hw, h.2.2.2.1, fun j hj => ?_, fun _ => ⟨by omega, ?_⟩⟩
  · unfold shiftF
    split
    · exact hA
    · split
      · exact h.2.2.2.2.1 0 (by omega)
      · split
        · exact h.2.2.2.2.1 _ (by omega)
        · exact h.2.2.2.2.1 j hj
  · show sameS A (F 0) = false
    rw [sameS_comm hA.S (h.s (by omega))]; exact hs
theorem OKS.wt {t : Nat} {S : Sch} {chg wts wts' pg : Nat} {F : Nat → ASet} (h : OKS t S chg wts pg F) (hw : wts' ≤ wts) : OKS t S chg wts' pg F := ⟨h.1, h.2.1, by have := h.2.2.1; omega, h.2.2.2.1, h.2.2.2.2.1, fun q => h.2.2.2.2.2 (by omega)⟩
theorem OKS.pgs {t : Nat} {S : Sch} {chg wts pg pg' : Nat} {F : Nat → ASet} (h : OKS t S chg wts pg F) (hp : pg' ≤ 1000) : OKS t S chg wts pg' F := ⟨h.1, h.2.1, h.2.2.1, hp, h.2.2.2.2.1, h.2.2.2.2.2⟩
def setN (a : Int32) : Nat := if a = 3 then 0 else if a = 4 then 1 else 10 + a.toNatClampNeg
def rowG (F : Nat → ASet) (a l k : Int32) : Option Row := atR (F (setN a) l.toNatClampNeg) (fi (F (setN a) l.toNatClampNeg) k)
def cGet (S : Sch) (rdy off : Bool) (bg : Nat → Bool) (F : Nat → ASet) (a l k f : Int32) : Int32 := if off || !rdy then 1 else if decide (a < 0) then 2 else if decide (4 < a) then 2 else if !isLfB S l f then 2 else if decide (a < 3) && !bg a.toNatClampNeg then 1 else if !(rowG F a l k).isSome then 3 else if nothB S l.toNatClampNeg (rowG F a l k) f.toNatClampNeg then 3 else 0
theorem setN_lt {a : Int32} (h1 : ¬ a < 0) (h2 : ¬ 4 < a) : setN a < 16 ∧ ¬ (2 ≤ setN a ∧ setN a < 10) := by
  obtain ⟨n, hn, rfl⟩ := zN_of h1
  rw [show (4 : Int32) = zN 4 from rfl, zN_lt (by omega) hn] at h2
  unfold setN
  rw [zN_nat hn]
  split
  · omega
  · rename_i q3
    have : n ≠ 3 := fun e => q3 (by rw [e]; rfl)
    split
    · omega
    · rename_i q4
      have : n ≠ 4 := fun e => q4 (by rw [e]; rfl)
      omega
theorem C_get {S : Sch} {rdy off : Bool} {chg wts : Nat} {hld : Int32} {pg : Nat} {w : Flt} {bg : Nat → Bool} {F : Nat → ASet} {M : sdM} {a l k f : Int32} {t : Nat} (hc : CST M S rdy off chg wts hld pg w bg F) (hk : OKS t S chg wts pg F) {Q : Int32 → sdM → Prop} (h1 : ∀ M', cGet S rdy off bg F a l k f ≠ 0 → CST M' S rdy off chg wts hld pg w bg F → frC M M' → Q (cGet S rdy off bg F a l k f) M') (h0 : ∀ M', cGet S rdy off bg F a l k f = 0 → CST M' S rdy off chg wts hld pg w bg F → frC M M' → M' 134 0 = whI S l.toNatClampNeg (rowG F a l k) f.toNatClampNeg → Q 0 M') : w_L_get M a l k f Q := by
  have bad : ∀ c : Int32, cGet S rdy off bg F a l k f = c → c ≠ 0 → Q c M := fun c e hne => by
    rw [e] at h1; exact h1 M hne hc (frC.rf _)
  refine p_rdy hc.2.1.1 hc.2.1.2.1 (fun h => Or.inl ⟨rfl, bad 1 ?_ (by decide)⟩) (fun h => ⟨fun g => Or.inr (Or.inl ⟨rfl, bad 2 ?_ (by decide)⟩), fun g => ⟨fun g2 => p_hasLeaf hc.1 hk.1 ⟨fun g3 => ?_, fun g3 => Or.inr (Or.inl ⟨rfl, bad 2 ?_ (by decide)⟩)⟩, fun g2 => Or.inr (Or.inl ⟨rfl, bad 2 ?_ (by decide)⟩)⟩⟩)
  · unfold cGet; rw [h]; rfl
  · unfold cGet; rw [h, decide_eq_true g]; rfl
  · have g3 := bI_1.mp g3
    have g2' : ¬ 4 < a := fun q => i_nle.mpr q g2
    obtain ⟨l', f', b1, b2, b3, b4, rfl, rfl⟩ := lfB hk.1 g3
    have c4 : cGet S rdy off bg F a (zN l') k (zN f') = if decide (a < 3) && !bg a.toNatClampNeg then 1 else if !(rowG F a (zN l') k).isSome then 3 else if nothB S l' (rowG F a (zN l') k) f' then 3 else 0 := by
      unfold cGet; rw [h, decide_eq_false g, decide_eq_false g2', g3, zN_nat (by omega), zN_nat (by omega)]; rfl
    rw [zN_nat (by omega), zN_nat (by omega)] at h0
    -- the search in the set, once the session has begun
    have main : (decide (a < 3) && !bg a.toNatClampNeg) = false → k_D_get_40 (fun r M1 => ∀ M2 : sdM, M2 = sd_s M1 134 0 r → Q 0 M2) (fun E M1 => (E = "java/lang/IllegalStateException" ∧ Q 1 M1) ∨ (E = "java/lang/IndexOutOfBoundsException" ∧ Q 2 M1) ∨ (E = "java/lang/UnsupportedOperationException" ∧ Q 3 M1)) M a (zN l') k (zN f') := by
      intro hb
      rw [hb, if_neg (by decide)] at c4
      obtain ⟨s1, s2⟩ := setN_lt g g2'
      have hok := hk.s s1 l' b2
      have look : ∀ o, o = cellOf chg (setN a) → w_S_rowOf o M (zN l') k (fun r32 M31 => w_C_leafAt M31 (zN l') (zN f') (fun t34 M33 => (r32 = (-1 : Int32) → k_D_get_88 (fun r M1 => ∀ M2 : sdM, M2 = sd_s M1 134 0 r → Q 0 M2) (fun E M1 => (E = "java/lang/IllegalStateException" ∧ Q 1 M1) ∨ (E = "java/lang/IndexOutOfBoundsException" ∧ Q 2 M1) ∨ (E = "java/lang/UnsupportedOperationException" ∧ Q 3 M1)) M33) ∧ (¬ r32 = (-1 : Int32) → w_S_isNothing o M33 r32 (zN f') t34 (fun r37 M36 => (r37 = 0 → w_S_whatIs o M36 r32 (zN f') t34 (fun r39 M38 => (fun r M1 => ∀ M2 : sdM, M2 = sd_s M1 134 0 r → Q 0 M2) r39 M38)) ∧ (¬ r37 = 0 → k_D_get_88 (fun r M1 => ∀ M2 : sdM, M2 = sd_s M1 134 0 r → Q 0 M2) (fun E M1 => (E = "java/lang/IllegalStateException" ∧ Q 1 M1) ∨ (E = "java/lang/IndexOutOfBoundsException" ∧ Q 2 M1) ∨ (E = "java/lang/UnsupportedOperationException" ∧ Q 3 M1)) M36))))) := by
        intro o eo
        subst eo
        have hR := hc.2.2.1 (setN a) s1 (by omega) l' b2
        refine p_rowOf b2 hR hok.2.2 (p_leafAt b2 b4 ?_)
        have x' : isRow M (cellOf chg (setN a)) (rowI (12 * l') (fi (F (setN a) l') k)) (atR (F (setN a) l') (fi (F (setN a) l') k)) := hR.found hok b2
        have eG : rowG F a (zN l') k = atR (F (setN a) l') (fi (F (setN a) l') k) := by unfold rowG; rw [zN_nat (by omega)]
        rw [eG] at c4 h0
        have hlf := hc.1.2.2.1 (4 * l' + f') (by omega)
        refine ⟨fun q => Or.inr (Or.inr ⟨rfl, bad 3 ?_ (by decide)⟩), fun q => p_isNothing x' b4 hlf.2.2.2.2.2.1 ⟨fun q2 => p_whatIs x' b4 hlf.2.2.2.2.2.2 (fun M2 e2 => ?_), fun q2 => Or.inr (Or.inr ⟨rfl, bad 3 ?_ (by decide)⟩)⟩⟩
        · rw [c4, x'.none.mp q]; rfl
        · have hsome : (atR (F (setN a) l') (fi (F (setN a) l') k)).isSome = true := by
            cases e : atR (F (setN a) l') (fi (F (setN a) l') k) with
            | none => exact (q (x'.none.mpr e)).elim
            | some r => rfl
          have hn : nothB S l' (atR (F (setN a) l') (fi (F (setN a) l') k)) f' = false := bI_0.mp q2
          subst e2
          exact h0 _ (by rw [c4, hsome, hn]; rfl) hc.o134 ((frC.rf M).s (by omega)) (sd_s_self _ _ _ _)
        · have hsome : (atR (F (setN a) l') (fi (F (setN a) l') k)).isSome = true := by
            cases e : atR (F (setN a) l') (fi (F (setN a) l') k) with
            | none => exact (q (x'.none.mpr e)).elim
            | some r => rfl
          have hn : nothB S l' (atR (F (setN a) l') (fi (F (setN a) l') k)) f' = true := bI_1.mp q2
          rw [c4, hsome, hn]; rfl
      refine ⟨fun q3 => ⟨fun q4 => ?_, fun q4 => look 30 ?_⟩, fun q3 => look 25 ?_⟩
      · obtain ⟨s, hs, rfl⟩ := zN_of g
        rw [show (4 : Int32) = zN 4 from rfl, zN_lt (by omega) hs] at g2'
        rw [show (4 : Int32) = zN 4 from rfl, zN_eq hs (by omega)] at q4
        rw [show (3 : Int32) = zN 3 from rfl, zN_eq hs (by omega)] at q3
        refine ⟨(zN_in (by omega)).mpr (by omega), ?_⟩
        rw [zN_nat (by omega), show 83 + 11 * s + 1 = 84 + 11 * s by omega]
        refine look _ ?_
        have : setN (zN s) = 10 + s := by
          unfold setN
          rw [if_neg (by rw [show (3 : Int32) = zN 3 from rfl, zN_eq hs (by omega)]; exact q3), if_neg (by rw [show (4 : Int32) = zN 4 from rfl, zN_eq hs (by omega)]; exact q4), zN_nat hs]
        rw [this, cellOf_ca chg (by omega)]
      · subst q4; rfl
      · subst q3; rfl
    refine ⟨fun g5 => main ?_, fun g5 => ?_⟩
    · rw [decide_eq_false (i_nlt.mpr g5)]; rfl
    · have g5 := i_nle.mp g5
      obtain ⟨s, hs, rfl⟩ := zN_of g
      rw [show (3 : Int32) = zN 3 from rfl, zN_lt hs (by omega)] at g5
      show vp_in _ 3 ∧ _
      rw [zN_nat (by omega), hc.2.1.2.2.2.2.2.2.2 s g5]
      refine ⟨(zN_in (by omega)).mpr g5, fun g6 => main ?_, fun g6 => Or.inl ⟨rfl, bad 1 ?_ (by decide)⟩⟩
      · rw [zN_nat (by omega), bI_1.mp g6]; simp
      · rw [c4, zN_nat (by omega), bI_0.mp g6, decide_eq_true (by rw [show (3 : Int32) = zN 3 from rfl, zN_lt hs (by omega)]; exact g5)]; rfl
  · unfold cGet; rw [h, decide_eq_false g, decide_eq_false (fun q => i_nle.mpr q g2), bI_0.mp g3]; rfl
  · unfold cGet; rw [h, decide_eq_false g, decide_eq_true (i_nle.mp g2)]; rfl
theorem O_get {S : Sch} {rdy off : Bool} {chg wts : Nat} {hld : Int32} {pg : Nat} {w : Flt} {bg : Nat → Bool} {F : Nat → ASet} {M : sdM} {a l k f : Int32} {t : Nat} (hm : MST M S rdy off chg wts hld pg w bg F) (hk : OKS t S chg wts pg F) {Q : Int32 → sdM → Prop} (h1 : ∀ M' b, cGet S rdy off bg F a l k f ≠ 0 → MST M' S rdy off chg wts hld pg w bg F → frM M M' → M' 116 0 = cGet S rdy off bg F a l k f → Q b M') (h0 : ∀ M', cGet S rdy off bg F a l k f = 0 → MST M' S rdy off chg wts hld pg w bg F → frM M M' → M' 116 0 = 0 → Q (whI S l.toNatClampNeg (rowG F a l k) f.toNatClampNeg) M') : w_O_get M a l k f Q := by
  have bad : ∀ c : Int32, cGet S rdy off bg F a l k f = c → ¬ c ≤ 0 → k_O_get_66 Q M a l k f c := by
    intro e he hne M5 e5
    subst e5
    rw [sd_s_self]
    rw [he] at h1
    exact ⟨fun h => absurd h hne, fun _ => h1 _ _ (fun h => hne (by rw [h]; decide)) hm.thr ((frM.rf M).s (by omega)) (sd_s_self _ _ _ _)⟩
  have good : isLfB S l f = true → ¬ a < 0 → ¬ 4 < a → (cGet S rdy off bg F a l k f = if !(rowG F a l k).isSome then 3 else if nothB S l.toNatClampNeg (rowG F a l k) f.toNatClampNeg then 3 else 0) → k_O_get_66 Q M a l k f 0 := by
    intro hL g g2 c4 M5 e5
    obtain ⟨l', f', b1, b2, b3, b4, rfl, rfl⟩ := lfB hk.1 hL
    rw [zN_nat (by omega), zN_nat (by omega)] at h0 c4
    have m5 : MST M5 S rdy off chg wts hld pg w bg F := by rw [e5]; exact hm.thr
    have f5 : frM M M5 := by rw [e5]; exact (frM.rf M).s (by omega)
    have t5 : M5 116 0 = 0 := by rw [e5, sd_s_self]
    obtain ⟨s1, s2⟩ := setN_lt g g2
    have hok := hk.s s1 l' b2
    have look : ∀ s0 : Int32, s0 = zN (setN a) → k_O_get_101 Q M5 (zN l') k (zN f') s0 := by
      intro s0 es
      subst es
      have hR := m5.2.2 (setN a) s1 l' b2
      refine m_find (by omega) b2 hR hok ?_
      have x' : isRowM M5 (rowI (48 * setN a + 12 * l') (fi (F (setN a) l') k)) (atR (F (setN a) l') (fi (F (setN a) l') k)) := hR.found hok (by omega) b2
      have eG : rowG F a (zN l') k = atR (F (setN a) l') (fi (F (setN a) l') k) := by unfold rowG; rw [zN_nat (by omega)]
      rw [eG] at c4 h0
      have sgn := x'.sgn
      have no : cGet S rdy off bg F a (zN l') k (zN f') = 3 → ∀ x6, k_O_get_130 Q M5 (zN l') (zN f') x6 0 := by
        intro e3 x6
        refine ⟨fun _ M6 e6 => ⟨fun _ => ?_, fun q => absurd rfl q⟩, fun q => absurd rfl q⟩
        subst e6
        rw [e3] at h1
        exact h1 _ _ (by decide) m5.thr (f5.s (by omega)) (sd_s_self _ _ _ _)
      refine ⟨fun q => no ?_ _, fun q => m_something m5.1 x' b2 b4 ⟨fun q2 => no ?_ _, fun q2 => ⟨fun q3 => absurd q3 (by decide), fun _ M6 e6 => ⟨fun q3 => absurd q3 (by decide), fun _ => ?_⟩⟩⟩⟩
      · have : (atR (F (setN a) l') (fi (F (setN a) l') k)).isSome = false := by
          cases e : atR (F (setN a) l') (fi (F (setN a) l') k) with
          | none => rfl
          | some r => rw [e] at sgn; exact (i_nlt.mpr (sgn.mpr rfl) q).elim
        rw [c4, this]; rfl
      · have hs : (atR (F (setN a) l') (fi (F (setN a) l') k)).isSome = true := sgn.mp (i_nlt.mp q)
        have hn : nothB S l' (atR (F (setN a) l') (fi (F (setN a) l') k)) f' = true := by simpa using bI_0.mp q2
        rw [c4, hs, hn]; rfl
      · have hs : (atR (F (setN a) l') (fi (F (setN a) l') k)).isSome = true := sgn.mp (i_nlt.mp q)
        have hn : nothB S l' (atR (F (setN a) l') (fi (F (setN a) l') k)) f' = false := by simpa using bI_1.mp q2
        subst e6
        have m6 := m5.thr (x := 0)
        have x6 : isRowM (sd_s M5 116 0 0) (rowI (48 * setN a + 12 * l') (fi (F (setN a) l') k)) (atR (F (setN a) l') (fi (F (setN a) l') k)) := (m6.2.2 (setN a) s1 l' b2).found hok (by omega) b2
        exact m_what m6.1 x6 b2 b4 (h0 _ (by rw [c4, hs, hn]; rfl) m6 (f5.s (by omega)) (sd_s_self _ _ _ _))
    rw [t5]
    refine ⟨fun _ => ⟨fun q => ⟨fun q2 => look 1 ?_, fun q2 => look 0 ?_⟩, fun q => look _ ?_⟩, fun h => absurd (by decide) h⟩
    · obtain ⟨n, hn, rfl⟩ := zN_of g
      rw [show (3 : Int32) = zN 3 from rfl, zN_le (by omega) hn] at q
      rw [show (3 : Int32) = zN 3 from rfl, zN_eq hn (by omega)] at q2
      rw [show (4 : Int32) = zN 4 from rfl, zN_lt (by omega) hn] at g2
      have : n = 4 := by omega
      subst this; rfl
    · subst q2; rfl
    · obtain ⟨n, hn, rfl⟩ := zN_of g
      rw [show (3 : Int32) = zN 3 from rfl, zN_le (by omega) hn] at q
      have n3 : ¬ zN n = 3 := fun e => by have := (zN_eq hn (by omega)).mp (show zN n = zN 3 from e); omega
      have n4 : ¬ zN n = 4 := fun e => by have := (zN_eq hn (by omega)).mp (show zN n = zN 4 from e); omega
      unfold setN
      rw [if_neg n3, if_neg n4, zN_nat hn]
      exact zN_add 10 n
  have c24 : ∀ s0 : Int32, s0 = bI (!decide (a < 0) && (!decide (4 < a) && isLfB S l f)) → k_O_get_24 Q M a l k f s0 := by
    intro s0 e0
    subst e0
    refine m_isDown hm.2.1.1 hm.2.1.2.1 ⟨fun h => ⟨fun g => ?_, fun g => bad 2 ?_ (by decide)⟩, fun h => bad 1 ?_ (by decide)⟩
    · have g := bI_1.mp g
      simp at g
      obtain ⟨g1, g2, g3⟩ := g
      have g1 : ¬ a < 0 := i_nlt.mpr g1
      have g2 : ¬ 4 < a := i_nlt.mpr g2
      have c4 : cGet S rdy off bg F a l k f = if decide (a < 3) && !bg a.toNatClampNeg then 1 else if !(rowG F a l k).isSome then 3 else if nothB S l.toNatClampNeg (rowG F a l k) f.toNatClampNeg then 3 else 0 := by
        unfold cGet; rw [bI_0.mp h, decide_eq_false g1, decide_eq_false g2, g3]; rfl
      refine ⟨fun g5 => good g3 g1 g2 ?_, fun g5 => ?_⟩
      · rw [c4, decide_eq_false (i_nlt.mpr g5)]; rfl
      · have g5 := i_nle.mp g5
        obtain ⟨s, hs, rfl⟩ := zN_of g1
        have g5' := g5
        rw [show (3 : Int32) = zN 3 from rfl, zN_lt hs (by omega)] at g5
        show vp_in _ 3 ∧ _
        rw [zN_nat (by omega), hm.2.1.2.2.2.2.2.2.2.2 s g5]
        rw [zN_nat (by omega)] at c4
        refine ⟨(zN_in (by omega)).mpr g5, fun g6 => good g3 g1 g2 ?_, fun g6 => bad 1 ?_ (by decide)⟩
        · rw [c4, bI_1.mp g6, Bool.not_true, Bool.and_false, if_neg (by decide)]
        · rw [c4, bI_0.mp g6, decide_eq_true g5']; rfl
    · have g := bI_0.mp g
      unfold cGet; rw [bI_0.mp h, if_neg (by decide)]
      by_cases q1 : a < 0
      · rw [decide_eq_true q1]; rfl
      · by_cases q2 : 4 < a
        · rw [decide_eq_false q1, decide_eq_true q2]; rfl
        · rw [decide_eq_false q1, decide_eq_false q2] at g ⊢
          have : isLfB S l f = false := by simpa using g
          rw [this]; rfl
    · unfold cGet; rw [bI_1.mp h]; rfl
  exact ⟨fun g => c24 0 (by rw [decide_eq_true g]; rfl), fun g => ⟨fun g2 => c24 0 (by rw [decide_eq_true g2]; simp [bI]), fun g2 => m_isLeaf hm.1 hk.1 ⟨fun g3 => c24 0 (by rw [bI_0.mp g3]; simp [bI]), fun g3 => c24 1 (by rw [bI_1.mp g3, decide_eq_false g, decide_eq_false g2]; rfl)⟩⟩⟩
theorem J_get {t : Nat} {M : sdM} {a l k f : Int32} (h : INV t M) : w_L_get M a l k f (fun c M1 => w_O_get M1 a l k f (fun b M2 => goodJ (t + 1) c b M2)) := by
  obtain ⟨S, rdy, off, chg, wts, hld, pg, w, bg, F, hc, hm, hk⟩ := h
  exact joinJ (fun Q a b => C_get hc hk a b) (fun M1 d Q a b => O_get d hk a b) hm (fun _ _ d f => d.fc f) (fun _ _ c f => c.fm f) (fun _ _ c f => c.fm f) (fun M' c d => ⟨_, _, _, _, _, _, _, _, _, _, c, d, hk.mono⟩) (fun M' c d => ⟨_, _, _, _, _, _, _, _, _, _, c, d, hk.mono⟩)
def newH (tk : Bool) (hld a : Int32) : Int32 := if hld = -1 then (if tk then a else -1) else if hld = a then (if tk then a else -1) else hld
theorem C_lock {S : Sch} {rdy off : Bool} {chg wts : Nat} {hld : Int32} {pg : Nat} {w : Flt} {bg : Nat → Bool} {F : Nat → ASet} {M : sdM} {a : Int32} {tk : Bool} {t : Nat} (hc : CST M S rdy off chg wts hld pg w bg F) (hk : OKS t S chg wts pg F) {Q : Int32 → sdM → Prop} (h1 : ∀ M', cNeeds rdy off bg a ≠ 0 → CST M' S rdy off chg wts hld pg w bg F → frC M M' → Q (cNeeds rdy off bg a) M') (h0 : ∀ M', cNeeds rdy off bg a = 0 → CST M' S rdy off chg wts (newH tk hld a) pg w bg F → frC M M' → M' 134 0 = bI (decide (newH tk hld a = a)) → Q 0 M') : w_L_lock M a (bI tk) Q := by
  obtain ⟨g1, g2, g3, g4, g5, g6, g7, g8⟩ := hc.2.1
  refine p_needs g1 g2 g8 (fun e => Or.inl ⟨rfl, ?_⟩) (fun e => Or.inr ⟨rfl, ?_⟩) (fun e s hs ea hb => ?_)
  · rw [e] at h1; exact h1 M (by decide) hc (frC.rf _)
  · rw [e] at h1; exact h1 M (by decide) hc (frC.rf _)
  · have sneg : ¬ a = -1 := by rw [ea]; exact zN_m1 (by omega)
    have fin : ∀ M', M' 0 9 = newH tk hld a → (∀ c, c ≠ 0 → M' c = M c) → (∀ j, j ≠ 9 → M' 0 j = M 0 j) → k_D_lock_51 (fun r M1 => ∀ M2 : sdM, M2 = sd_s M1 134 0 (if r = 0 then 0 else 1) → Q 0 M2) (fun E M1 => (E = "java/lang/IllegalStateException" ∧ Q 1 M1) ∨ (E = "java/lang/IndexOutOfBoundsException" ∧ Q 2 M1)) M' a := by
      intro M' e9 eo ej
      have c' : CST M' S rdy off chg wts (newH tk hld a) pg w bg F := hc.c0 (fun c x _ => eo c x) (ej 7 (by omega)) (by rw [ej 8 (by omega)]; exact g4) e9 (by rw [ej 10 (by omega)]; exact g2) (by rw [ej 11 (by omega)]; exact g6)
      have f' : frC M M' := fun c x y => eo c (by omega)
      unfold k_D_lock_51
      rw [e9]
      refine ⟨fun q => ⟨Or.inl rfl, fun M2 e2 => ?_⟩, fun q => ⟨Or.inr rfl, fun M2 e2 => ?_⟩⟩
      · subst e2
        exact h0 _ e c'.o134 (f'.s (by omega)) (by rw [sd_s_self, decide_eq_false q]; rfl)
      · subst e2
        exact h0 _ e c'.o134 (f'.s (by omega)) (by rw [sd_s_self, decide_eq_true q]; rfl)
    have c34 : tk = false ∨ ¬ hld = -1 → k_D_lock_34 (fun r M1 => ∀ M2 : sdM, M2 = sd_s M1 134 0 (if r = 0 then 0 else 1) → Q 0 M2) (fun E M1 => (E = "java/lang/IllegalStateException" ∧ Q 1 M1) ∨ (E = "java/lang/IndexOutOfBoundsException" ∧ Q 2 M1)) M a (bI tk) := by
      intro hor
      unfold k_D_lock_34
      rw [g5]
      refine ⟨fun q => fin M ?_ (fun _ _ => rfl) (fun _ _ => rfl), fun q => ⟨fun q2 => fin M ?_ (fun _ _ => rfl) (fun _ _ => rfl), fun q2 M2 e2 => ?_⟩⟩
      · have ht := bI_1.mp q
        have hn : ¬ hld = -1 := by
          rcases hor with h | h
          · rw [ht] at h; cases h
          · exact h
        rw [g5]; unfold newH
        rw [if_neg hn, ht]
        split
        · assumption
        · rfl
      · have ht := bI_0.mp q
        rw [g5]; unfold newH
        rw [ht, if_neg q2]
        split
        · assumption
        · rfl
      · have ht := bI_0.mp q
        refine fin M2 ?_ (fun c x => by rw [e2, sd_s_o x]) (fun j x => by rw [e2, sd_s_ne x])
        rw [e2, sd_s_self]; unfold newH
        rw [ht, q2, if_neg sneg, if_pos rfl]; rfl
    show (bI tk = 0 → _) ∧ _
    rw [g5]
    refine ⟨fun q => c34 (Or.inl (bI_0.mp q)), fun q => ⟨fun q2 => c34 (Or.inr q2), fun q2 M2 e2 => ?_⟩⟩
    refine fin M2 ?_ (fun c x => by rw [e2, sd_s_o x]) (fun j x => by rw [e2, sd_s_ne x])
    rw [e2, sd_s_self]; unfold newH
    rw [if_pos q2, bI_1.mp q]; rfl
theorem O_lock {S : Sch} {rdy off : Bool} {chg wts : Nat} {hld : Int32} {pg : Nat} {w : Flt} {bg : Nat → Bool} {F : Nat → ASet} {M : sdM} {a : Int32} {tk : Bool} {t : Nat} (hm : MST M S rdy off chg wts hld pg w bg F) (hk : OKS t S chg wts pg F) {Q : Int32 → sdM → Prop} (h1 : ∀ M' b, cNeeds rdy off bg a ≠ 0 → MST M' S rdy off chg wts hld pg w bg F → frM M M' → M' 116 0 = cNeeds rdy off bg a → Q b M') (h0 : ∀ M', cNeeds rdy off bg a = 0 → MST M' S rdy off chg wts (newH tk hld a) pg w bg F → frM M M' → M' 116 0 = 0 → Q (bI (decide (newH tk hld a = a))) M') : w_O_lock M a (bI tk) Q := by
  obtain ⟨g1, g2, g3, g4, g5, g6, g7, g8, g9⟩ := hm.2.1
  refine m_needs g1 g2 g9 (fun M5 e5 => ?_)
  have m5 : MST M5 S rdy off chg wts hld pg w bg F := by rw [e5]; exact hm.thr
  have f5 : frM M M5 := by rw [e5]; exact (frM.rf M).s (by omega)
  have t5 : M5 116 0 = cNeeds rdy off bg a := by rw [e5, sd_s_self]
  rw [t5]
  rcases cNeeds_cases rdy off bg a with e | e | e
  · rw [e] at t5 ⊢
    refine ⟨fun _ => ?_, fun h => absurd (by decide) h⟩
    obtain ⟨u1, u2, u3, u4, u5, u6, u7, u8, u9⟩ := m5.2.1
    have fin : ∀ s1 : Int32, s1 = newH tk hld a → k_O_lock_61 Q M5 a s1 := by
      intro s1 es M6 e6
      subst es
      have m6 : MST M6 S rdy off chg wts (newH tk hld a) pg w bg F := by
        refine m5.c0 (fun c x y => by rw [e6, sd_s_o (by omega)]) (fun j x y => by rw [e6, sd_s_ne (by omega)]) (by rw [e6, sd_s_self]) (by rw [e6, sd_s_ne (by omega)]; exact u5) (by rw [e6, sd_s_ne (by omega)]; exact u2) (by rw [e6, sd_s_ne (by omega)]; exact u7) ?_
        rw [e6, sd_s_ne (by omega), sd_s_ne (by omega), sd_s_ne (by omega), sd_s_ne (by omega)]; exact u8
      have f6 : frM M M6 := by rw [e6]; exact f5.s (by omega)
      have t6 : M6 116 0 = 0 := by rw [e6, sd_s_ne (by omega)]; exact t5
      have z : M6 116 23 = newH tk hld a := by rw [e6, sd_s_self]
      have hq := h0 M6 e m6 f6 t6
      rw [z]
      refine ⟨fun q => ⟨Or.inl rfl, ?_⟩, fun q => ⟨Or.inr rfl, ?_⟩⟩
      · rw [decide_eq_false q] at hq; exact hq
      · rw [decide_eq_true q] at hq; exact hq
    have c39 : hld = -1 ∨ hld = a → k_O_lock_39 Q M5 a (bI tk) 1 := by
      intro hor
      refine ⟨fun q => absurd q (by decide), fun _ => ⟨fun q => fin _ ?_, fun q => fin _ ?_⟩⟩
      · unfold newH; rw [bI_0.mp q]
        rcases hor with h | h
        · rw [if_pos h]; rfl
        · rw [if_pos h]; split <;> rfl
      · unfold newH; rw [bI_1.mp q]
        rcases hor with h | h
        · rw [if_pos h]; rfl
        · rw [if_pos h]; split <;> rfl
    rw [u6]
    refine ⟨fun q => c39 (Or.inl q), fun q => ⟨fun q2 => ⟨fun _ => fin _ ?_, fun q3 => absurd rfl q3⟩, fun q2 => c39 (Or.inr q2)⟩⟩
    rw [u6]; unfold newH; rw [if_neg q, if_neg q2]
  all_goals
    rw [e] at h1
    rw [e] at t5 ⊢
    exact ⟨fun h => absurd h (by decide), fun _ => ⟨Or.inl rfl, h1 M5 _ (by decide) m5 f5 t5⟩⟩
theorem J_lock {t : Nat} {M : sdM} {a : Int32} {tk : Bool} (h : INV t M) : w_L_lock M a (bI tk) (fun c M1 => w_O_lock M1 a (bI tk) (fun b M2 => goodZ (t + 1) c b M2)) := by
  obtain ⟨S, rdy, off, chg, wts, hld, pg, w, bg, F, hc, hm, hk⟩ := h
  exact joinZ (fun Q a b => C_lock hc hk a b) (fun M1 d Q a b => O_lock d hk a b) hm (fun _ _ d f => d.fc f) (fun _ _ c f => c.fm f) (fun _ _ c f => c.fm f) (fun M' c d => ⟨_, _, _, _, _, _, _, _, _, _, c, d, hk.mono⟩) (fun M' c d => ⟨_, _, _, _, _, _, _, _, _, _, c, d, hk.mono⟩)
theorem zN_le0 {n : Nat} (h : n < 2147483648) : zN n ≤ 0 ↔ n = 0 := by
  rw [show (0 : Int32) = zN 0 from rfl, zN_le h (by omega)]; omega
theorem C_confirm {S : Sch} {rdy off : Bool} {chg wts : Nat} {hld : Int32} {pg : Nat} {w : Flt} {bg : Nat → Bool} {F : Nat → ASet} {M : sdM} {t : Nat} (hc : CST M S rdy off chg wts hld pg w bg F) (hk : OKS t S chg wts pg F) {Q : Int32 → sdM → Prop} (h1 : ∀ M', cUp rdy off ≠ 0 → CST M' S rdy off chg wts hld pg w bg F → frC M M' → Q (cUp rdy off) M') (h0 : ∀ M', cUp rdy off = 0 → CST M' S rdy off chg 0 hld pg w bg F → frC M M' → M' 134 0 = bI (decide (0 < wts)) → Q 0 M') : w_L_confirm M Q := by
  have hw := hk.2.2.1
  obtain ⟨g1, g2, g3, g4, g5, g6, g7, g8⟩ := hc.2.1
  refine p_rdy g1 g2 (fun h => ⟨rfl, ?_⟩) (fun h => ?_)
  · have e : cUp rdy off = 1 := by unfold cUp; rw [h]; rfl
    rw [e] at h1; exact h1 M (by decide) hc (frC.rf _)
  · have e : cUp rdy off = 0 := by unfold cUp; rw [h]; rfl
    have fin : ∀ s0 : Int32, s0 = bI (decide (0 < wts)) → k_D_confirm_16 (fun r M1 => ∀ M2 : sdM, M2 = sd_s M1 134 0 (if r = 0 then 0 else 1) → Q 0 M2) (fun E M1 => (E = "java/lang/IllegalStateException" ∧ Q 1 M1)) M s0 := by
      intro s0 es M1 e1
      refine ⟨by rw [es]; exact bI_B _, fun M2 e2 => ?_⟩
      have er : (if s0 = 0 then (0 : Int32) else 1) = s0 := by rw [es]; cases decide (0 < wts) <;> rfl
      rw [er] at e2
      subst e2
      have c1 : CST M1 S rdy off chg 0 hld pg w bg F := hc.c0 (fun c x _ => by rw [e1, sd_s_o x]) (by rw [e1, sd_s_ne (by omega)]) (by rw [e1, sd_s_self]; rfl) (by rw [e1, sd_s_ne (by omega)]; exact g5) (by rw [e1, sd_s_ne (by omega)]; exact g2) (by rw [e1, sd_s_ne (by omega)]; exact g6)
      exact h0 _ e c1.o134 ((by rw [e1]; exact (frC.rf M).s (by omega) : frC M M1).s (by omega)) (by rw [sd_s_self]; exact es)
    show (M 0 8 ≤ 0 → _) ∧ _
    rw [g4, zN_le0 (by omega)]
    exact ⟨fun q => fin 0 (by rw [q]; rfl), fun q => fin 1 (by rw [decide_eq_true (by omega)]; rfl)⟩
theorem O_confirm {S : Sch} {rdy off : Bool} {chg wts : Nat} {hld : Int32} {pg : Nat} {w : Flt} {bg : Nat → Bool} {F : Nat → ASet} {M : sdM} {t : Nat} (hm : MST M S rdy off chg wts hld pg w bg F) (hk : OKS t S chg wts pg F) {Q : Int32 → sdM → Prop} (h1 : ∀ M' b, cUp rdy off ≠ 0 → MST M' S rdy off chg wts hld pg w bg F → frM M M' → M' 116 0 = cUp rdy off → Q b M') (h0 : ∀ M', cUp rdy off = 0 → MST M' S rdy off chg 0 hld pg w bg F → frM M M' → M' 116 0 = 0 → Q (bI (decide (0 < wts))) M') : w_O_confirm M Q := by
  have hw := hk.2.2.1
  have core : ∀ s1 : Int32, cUp rdy off = s1 → k_O_confirm_13 Q M s1 := by
    intro s1 es M5 e5
    have m5 : MST M5 S rdy off chg wts hld pg w bg F := by rw [e5]; exact hm.thr
    have f5 : frM M M5 := by rw [e5]; exact (frM.rf M).s (by omega)
    have t5 : M5 116 0 = s1 := by rw [e5, sd_s_self]
    obtain ⟨u1, u2, u3, u4, u5, u6, u7, u8, u9⟩ := m5.2.1
    have fin : ∀ (x1 v1 : Int32) (wts' : Nat), v1 = zN wts' → (∀ M6, MST M6 S rdy off chg wts' hld pg w bg F → frM M M6 → M6 116 0 = s1 → sdB x1 ∧ Q x1 M6) → k_O_confirm_49 Q M5 x1 v1 := by
      intro x1 v1 wts' ev hq M6 e6
      refine hq M6 ?_ (by rw [e6]; exact f5.s (by omega)) (by rw [e6, sd_s_ne (by omega)]; exact t5)
      refine m5.c0 (fun c x y => by rw [e6, sd_s_o (by omega)]) (fun j x y => by rw [e6, sd_s_ne (by omega)]) (by rw [e6, sd_s_ne (by omega)]; exact u6) (by rw [e6, sd_s_self]; exact ev) (by rw [e6, sd_s_ne (by omega)]; exact u2) (by rw [e6, sd_s_ne (by omega)]; exact u7) ?_
      rw [e6, sd_s_ne (by omega), sd_s_ne (by omega), sd_s_ne (by omega), sd_s_ne (by omega)]; exact u8
    rw [t5, u5, zN_le0 (by omega)]
    refine ⟨fun q => ⟨fun _ => fin 0 _ wts u5 (fun M6 a b c => ⟨Or.inl rfl, ?_⟩), fun q2 => absurd rfl q2⟩, fun q => ⟨fun q2 => ⟨fun _ => fin 0 _ wts u5 (fun M6 a b c => ⟨Or.inl rfl, ?_⟩), fun q3 => absurd rfl q3⟩, fun q2 => ⟨fun q3 => absurd q3 (by decide), fun _ => fin 1 _ 0 rfl (fun M6 a b c => ⟨Or.inr rfl, ?_⟩)⟩⟩⟩
    · rw [es] at h1; exact h1 M6 _ q a b c
    · rw [es, q] at h0
      have := h0 M6 rfl (by rw [q2] at a; exact a) b (by rw [c, q])
      rw [q2] at this; exact this
    · rw [es, q] at h0
      have := h0 M6 rfl a b (by rw [c, q])
      rw [decide_eq_true (by omega)] at this; exact this
  refine m_isDown hm.2.1.1 hm.2.1.2.1 ⟨fun h => core 0 ?_, fun h => core 1 ?_⟩
  · unfold cUp; rw [bI_0.mp h]; rfl
  · unfold cUp; rw [bI_1.mp h]; rfl
theorem J_confirm {t : Nat} {M : sdM} (h : INV t M) : w_L_confirm M (fun c M1 => w_O_confirm M1 (fun b M2 => goodZ (t + 1) c b M2)) := by
  obtain ⟨S, rdy, off, chg, wts, hld, pg, w, bg, F, hc, hm, hk⟩ := h
  exact joinZ (fun Q a b => C_confirm hc hk a b) (fun M1 d Q a b => O_confirm d hk a b) hm (fun _ _ d f => d.fc f) (fun _ _ c f => c.fm f) (fun _ _ c f => c.fm f) (fun M' c d => ⟨_, _, _, _, _, _, _, _, _, _, c, d, hk.mono⟩) (fun M' c d => ⟨_, _, _, _, _, _, _, _, _, _, c, d, (hk.wt (by omega)).mono⟩)
def cCut (n : Int32) : Int32 := if decide (n < -1) || decide (1000 < n) then 1 else 0
def offC (off : Bool) (n : Int32) : Bool := off || decide (n = 0)
def pgC (off : Bool) (pg : Nat) (n : Int32) : Nat := if off then pg else n.toNatClampNeg
theorem cut_n {n : Int32} (h1 : ¬ n < -1) (h2 : n ≤ 1000) : n = -1 ∨ ∃ m, m ≤ 1000 ∧ n = zN m := by
  by_cases h : n < 0
  · left
    apply Int32.toInt_inj.mp
    rw [Int32.lt_iff_toInt_lt] at h1 h
    have : (-1 : Int32).toInt = -1 := rfl
    have : (0 : Int32).toInt = 0 := rfl
    omega
  · right
    obtain ⟨m, hm, rfl⟩ := zN_of h
    rw [show (1000 : Int32) = zN 1000 from rfl, zN_le hm (by omega)] at h2
    exact ⟨m, h2, rfl⟩
theorem C_cut {S : Sch} {rdy off : Bool} {chg wts : Nat} {hld : Int32} {pg : Nat} {w : Flt} {bg : Nat → Bool} {F : Nat → ASet} {M : sdM} {n : Int32} {t : Nat} (hc : CST M S rdy off chg wts hld pg w bg F) (hk : OKS t S chg wts pg F) {Q : Int32 → sdM → Prop} (h1 : ∀ M', cCut n ≠ 0 → CST M' S rdy off chg wts hld pg w bg F → frC M M' → Q (cCut n) M') (h0 : ∀ M', cCut n = 0 → CST M' S rdy (offC off n) chg wts hld (pgC off pg n) w bg F → frC M M' → M' 134 0 = bI (offC off n) → Q 0 M') : w_L_cut M n Q := by
  obtain ⟨g1, g2, g3, g4, g5, g6, g7, g8⟩ := hc.2.1
  have bad : cCut n = 1 → Q 1 M := fun e => by rw [e] at h1; exact h1 M (by decide) hc (frC.rf _)
  refine ⟨fun h => ⟨rfl, bad ?_⟩, fun h => ⟨fun g => ?_, fun g => ⟨rfl, bad ?_⟩⟩⟩
  · unfold cCut; rw [decide_eq_true h]; rfl
  · have e0 : cCut n = 0 := by unfold cCut; rw [decide_eq_false h, decide_eq_false (fun q => i_nle.mpr q g)]; rfl
    rw [g2]
    refine ⟨fun q M1 e1 => ?_, fun q => ⟨Or.inr rfl, fun M2 e2 => ?_⟩⟩
    · have ho := bI_0.mp q
      subst ho
      have hn := cut_n h g
      refine ⟨fun q2 => ?_, fun q2 => ?_⟩
      · have c1 : CST M1 S rdy (offC false n) chg wts hld (pgC false pg n) w bg F := by
          refine hc.c0 (fun c x _ => by rw [e1, sd_s_o x]) (by rw [e1, sd_s_ne (by omega)]) (by rw [e1, sd_s_ne (by omega)]; exact g4) (by rw [e1, sd_s_ne (by omega)]; exact g5) (by rw [e1, sd_s_ne (by omega), g2]; unfold offC; rw [decide_eq_false q2]; rfl) ?_
          rw [e1, sd_s_self]
          rcases hn with rfl | ⟨m, hm, rfl⟩
          · rfl
          · unfold pgC pgI
            have hm0 : m ≠ 0 := fun e => q2 (by rw [e]; rfl)
            show zN m = if (zN m).toNatClampNeg = 0 then -1 else zN (zN m).toNatClampNeg
            rw [zN_nat (by omega), if_neg hm0]
        have z : M1 0 10 = bI (offC false n) := c1.2.1.2.1
        refine ⟨by rw [z]; exact bI_B _, fun M2 e2 => ?_⟩
        rw [z] at e2
        have er : (if bI (offC false n) = 0 then (0 : Int32) else 1) = bI (offC false n) := by cases offC false n <;> rfl
        rw [er] at e2
        subst e2
        exact h0 _ e0 c1.o134 ((by rw [e1]; exact (frC.rf M).s (by omega) : frC M M1).s (by omega)) (sd_s_self _ _ _ _)
      · subst q2
        refine ⟨Or.inr rfl, fun M2 e2 M3 e3 => ?_⟩
        have c3 : CST M3 S rdy (offC false 0) chg wts hld (pgC false pg 0) w bg F := by
          refine hc.c0 (fun c x _ => by rw [e3, sd_s_o x, e2, sd_s_o x, e1, sd_s_o x]) (by rw [e3, sd_s_ne (by omega), e2, sd_s_ne (by omega), e1, sd_s_ne (by omega)]) (by rw [e3, sd_s_ne (by omega), e2, sd_s_ne (by omega), e1, sd_s_ne (by omega)]; exact g4) (by rw [e3, sd_s_ne (by omega), e2, sd_s_ne (by omega), e1, sd_s_ne (by omega)]; exact g5) (by rw [e3, sd_s_ne (by omega), e2, sd_s_self]; rfl) (by rw [e3, sd_s_self]; rfl)
        have z : M3 0 10 = 1 := c3.2.1.2.1
        have f3 : frC M M3 := by rw [e3, e2, e1]; exact (((frC.rf M).s (by omega)).s (by omega)).s (by omega)
        refine ⟨by rw [z]; exact Or.inr rfl, fun M4 e4 => ?_⟩
        rw [z] at e4
        subst e4
        exact h0 _ e0 c3.o134 (f3.s (by omega)) (by rw [sd_s_self]; rfl)
    · have ho := bI_1.mp q
      subst ho
      subst e2
      exact h0 _ e0 hc.o134 ((frC.rf M).s (by omega)) (by rw [sd_s_self]; rfl)
  · unfold cCut; rw [decide_eq_true (i_nle.mp g)]; simp
theorem O_cut {S : Sch} {rdy off : Bool} {chg wts : Nat} {hld : Int32} {pg : Nat} {w : Flt} {bg : Nat → Bool} {F : Nat → ASet} {M : sdM} {n : Int32} {t : Nat} (hm : MST M S rdy off chg wts hld pg w bg F) (hk : OKS t S chg wts pg F) {Q : Int32 → sdM → Prop} (h1 : ∀ M' b, cCut n ≠ 0 → MST M' S rdy off chg wts hld pg w bg F → frM M M' → M' 116 0 = cCut n → Q b M') (h0 : ∀ M', cCut n = 0 → MST M' S rdy (offC off n) chg wts hld (pgC off pg n) w bg F → frM M M' → M' 116 0 = 0 → Q (bI (offC off n)) M') : w_O_cut M n Q := by
  have bad : cCut n = 1 → k_O_cut_18 Q M n 1 := by
    intro e M5 e5
    subst e5
    rw [sd_s_self]
    rw [e] at h1
    exact ⟨fun h => absurd h (by decide), fun _ => ⟨Or.inl rfl, h1 _ _ (by decide) hm.thr ((frM.rf M).s (by omega)) (sd_s_self _ _ _ _)⟩⟩
  refine ⟨fun h => bad ?_, fun h => ⟨fun g M5 e5 => ?_, fun g => bad ?_⟩⟩
  · unfold cCut; rw [decide_eq_true h]; rfl
  · have e0 : cCut n = 0 := by unfold cCut; rw [decide_eq_false h, decide_eq_false (fun q => i_nle.mpr q g)]; rfl
    have m5 : MST M5 S rdy off chg wts hld pg w bg F := by rw [e5]; exact hm.thr
    have f5 : frM M M5 := by rw [e5]; exact (frM.rf M).s (by omega)
    have t5 : M5 116 0 = 0 := by rw [e5, sd_s_self]
    obtain ⟨u1, u2, u3, u4, u5, u6, u7, u8, u9⟩ := m5.2.1
    rw [t5, u2]
    refine ⟨fun _ => ⟨fun q => ?_, fun q => ?_⟩, fun h => absurd (by decide) h⟩
    · have ho := bI_1.mp q
      subst ho
      unfold k_O_cut_63
      rw [u2]
      exact ⟨Or.inr rfl, h0 M5 e0 m5 f5 t5⟩
    · have ho := bI_0.mp q
      subst ho
      have hn := cut_n h g
      have fin : ∀ s1 : Int32, s1 = bI (decide (n = 0)) → k_O_cut_47 Q M5 n s1 := by
        intro s1 es
        refine ⟨by rw [es]; exact bI_B _, fun M6 e6 => ?_⟩
        have fin2 : ∀ v : Int32, v = zN n.toNatClampNeg → k_O_cut_60 Q M6 v := by
          intro v ev M7 e7
          have m7 : MST M7 S rdy (offC false n) chg wts hld (pgC false pg n) w bg F := by
            refine m5.c0 (fun c x y => by rw [e7, sd_s_o (by omega), e6, sd_s_o (by omega)]) (fun j x y => by rw [e7, sd_s_ne (by omega), e6, sd_s_ne (by omega)]) (by rw [e7, sd_s_ne (by omega), e6, sd_s_ne (by omega)]; exact u6) (by rw [e7, sd_s_ne (by omega), e6, sd_s_ne (by omega)]; exact u5) (by rw [e7, sd_s_ne (by omega), e6, sd_s_self]; exact es) (by rw [e7, sd_s_self]; exact ev) ?_
            rw [e7, sd_s_ne (by omega), e6, sd_s_ne (by omega), sd_s_ne (by omega), sd_s_ne (by omega), sd_s_ne (by omega), sd_s_ne (by omega), sd_s_ne (by omega), sd_s_ne (by omega)]; exact u8
          have z : M7 116 25 = bI (offC false n) := m7.2.1.2.1
          unfold k_O_cut_63
          rw [z]
          exact ⟨bI_B _, h0 M7 e0 m7 (by rw [e7, e6]; exact (f5.s (by omega)).s (by omega)) (by rw [e7, sd_s_ne (by omega), e6, sd_s_ne (by omega)]; exact t5)⟩
        refine ⟨fun q2 => fin2 0 ?_, fun q2 => fin2 n ?_⟩
        · rcases hn with rfl | ⟨m, hm, rfl⟩
          · rfl
          · rw [zN_le0 (by omega)] at q2
            subst q2; rfl
        · rcases hn with rfl | ⟨m, hm, rfl⟩
          · exact absurd (by decide) q2
          · rw [zN_nat (by omega)]
      exact ⟨fun q2 => fin 0 (by rw [decide_eq_false q2]; rfl), fun q2 => fin 1 (by rw [decide_eq_true q2]; rfl)⟩
  · unfold cCut; rw [decide_eq_true (i_nle.mp g)]; simp
theorem J_cut {t : Nat} {M : sdM} {n : Int32} (h : INV t M) : w_L_cut M n (fun c M1 => w_O_cut M1 n (fun b M2 => goodZ (t + 1) c b M2)) := by
  obtain ⟨S, rdy, off, chg, wts, hld, pg, w, bg, F, hc, hm, hk⟩ := h
  by_cases e : cCut n = 0
  · refine joinZ (fun Q a b => C_cut hc hk a b) (fun M1 d Q a b => O_cut d hk a b) hm (fun _ _ d f => d.fc f) (fun _ _ c f => c.fm f) (fun _ _ c f => c.fm f) (fun M' c d => ⟨_, _, _, _, _, _, _, _, _, _, c, d, hk.mono⟩) (fun M' c d => ⟨_, _, _, _, _, _, _, _, _, _, c, d, (hk.pgs ?_).mono⟩)
    unfold cCut at e
    split at e
    · cases e
    · rename_i q
      simp at q
      unfold pgC
      split
      · exact hk.2.2.2.1
      · rcases cut_n (i_nlt.mpr q.1) q.2 with rfl | ⟨m, hm, rfl⟩
        · exact (by decide : (-1 : Int32).toNatClampNeg ≤ 1000)
        · rw [zN_nat (by omega)]; exact hm
  · exact joinZ' (fun Q a => C_cut hc hk a (fun M' h => (e h).elim)) (fun M1 d Q a => O_cut d hk a (fun M' h => (e h).elim)) e hm hk
theorem C_tick {S : Sch} {rdy off : Bool} {chg wts : Nat} {hld : Int32} {pg : Nat} {w : Flt} {bg : Nat → Bool} {F : Nat → ASet} {M : sdM} {t : Nat} (hc : CST M S rdy off chg wts hld pg w bg F) (hk : OKS t S chg wts pg F) (ht : t ≤ 1000) {Q : Int32 → sdM → Prop} (h1 : ∀ M', cUp rdy off ≠ 0 → CST M' S rdy off chg wts hld pg w bg F → frC M M' → Q (cUp rdy off) M') (h00 : ∀ M', cUp rdy off = 0 → wts = 0 → CST M' S rdy off chg wts hld pg w bg F → frC M M' → M' 134 0 = 0 → Q 0 M') (h01 : ∀ M', cUp rdy off = 0 → 1 < wts → CST M' S rdy off chg (wts - 1) hld pg w bg F → frC M M' → M' 134 0 = 0 → Q 0 M') (h02 : ∀ M', cUp rdy off = 0 → wts = 1 → CST M' S rdy off (chg + 1) 0 hld pg w bg (shiftF F (F 2)) → frC M M' → M' 134 0 = 1 → Q 0 M') : w_L_tick M Q := by
  have hw := hk.2.2.1
  obtain ⟨g1, g2, g3, g4, g5, g6, g7, g8⟩ := hc.2.1
  refine p_rdy g1 g2 (fun h => ⟨rfl, ?_⟩) (fun h => ?_)
  · have e : cUp rdy off = 1 := by unfold cUp; rw [h]; rfl
    rw [e] at h1; exact h1 M (by decide) hc (frC.rf _)
  · have e : cUp rdy off = 0 := by unfold cUp; rw [h]; rfl
    show (¬ M 0 8 = 0 → _) ∧ _
    rw [g4, show (0 : Int32) = zN 0 from rfl, zN_eq (by omega) (by omega)]
    refine ⟨fun q M1 e1 => ?_, fun q => ⟨Or.inl rfl, fun M2 e2 => ?_⟩⟩
    · rw [show (1 : Int32) = zN 1 from rfl, zN_sub (by omega)] at e1
      have c1 : CST M1 S rdy off chg (wts - 1) hld pg w bg F := hc.c0 (fun c x _ => by rw [e1, sd_s_o x]) (by rw [e1, sd_s_ne (by omega)]) (by rw [e1, sd_s_self]) (by rw [e1, sd_s_ne (by omega)]; exact g5) (by rw [e1, sd_s_ne (by omega)]; exact g2) (by rw [e1, sd_s_ne (by omega)]; exact g6)
      have f1 : frC M M1 := by rw [e1]; exact (frC.rf M).s (by omega)
      rw [c1.2.1.2.2.2.1, zN_le (by omega) (by omega)]
      refine ⟨fun q2 => ?_, fun q2 => ⟨Or.inl rfl, fun M2 e2 => ?_⟩⟩
      · have w1 : wts = 1 := by omega
        obtain ⟨k1, k2⟩ := hk.2.2.2.2.2 (by omega)
        have hch := hk.2.1
        unfold w_D_olderSet
        rw [c1.2.1.2.2.1, show (1 : Int32) = zN 1 from rfl, zN_sub k1]
        refine p_fmod (by omega) ⟨(zN_in (by omega)).mpr (Nat.mod_lt _ (by omega)), ?_⟩
        rw [zN_nat (by omega)]
        have ec : cellOf chg 2 = 43 + 5 * ((chg - 1) % 8) := by
          unfold cellOf; rw [if_neg (by omega), if_neg (by omega), if_pos (by omega)]; omega
        have r2 := c1.2.2.1 2 (by omega) (by omega)
        rw [ec] at r2
        refine C_change c1 (by omega) (hk.s (by omega)) (Or.inr (Or.inr (Or.inr (Or.inl ⟨_, Nat.mod_lt _ (by omega), rfl⟩)))) r2 (hk.s (by omega)) (by omega) (by omega) (fun hs => by rw [k2] at hs; cases hs) (fun _ M' c' _ f' => ⟨Or.inr rfl, fun M2 e2 => ?_⟩)
        subst e2
        rw [w1] at c'
        exact h02 _ e w1 c'.o134 ((f1.tr f').s (by omega)) (by rw [sd_s_self]; rfl)
      · subst e2
        exact h01 _ e (by omega) c1.o134 (f1.s (by omega)) (by rw [sd_s_self]; rfl)
    · subst e2
      exact h00 _ e q hc.o134 ((frC.rf M).s (by omega)) (by rw [sd_s_self]; rfl)
theorem O_tick {S : Sch} {rdy off : Bool} {chg wts : Nat} {hld : Int32} {pg : Nat} {w : Flt} {bg : Nat → Bool} {F : Nat → ASet} {M : sdM} {t : Nat} (hm : MST M S rdy off chg wts hld pg w bg F) (hk : OKS t S chg wts pg F) (ht : t ≤ 1000) {Q : Int32 → sdM → Prop} (h1 : ∀ M' b, cUp rdy off ≠ 0 → MST M' S rdy off chg wts hld pg w bg F → frM M M' → M' 116 0 = cUp rdy off → Q b M') (h00 : ∀ M', cUp rdy off = 0 → wts = 0 → MST M' S rdy off chg wts hld pg w bg F → frM M M' → M' 116 0 = 0 → Q 0 M') (h01 : ∀ M', cUp rdy off = 0 → 1 < wts → MST M' S rdy off chg (wts - 1) hld pg w bg F → frM M M' → M' 116 0 = 0 → Q 0 M') (h02 : ∀ M', cUp rdy off = 0 → wts = 1 → MST M' S rdy off (chg + 1) 0 hld pg w bg (shiftF F (F 2)) → frM M M' → M' 116 0 = 0 → Q 1 M') : w_O_tick M Q := by
  have hw := hk.2.2.1
  have hF : ∀ j, j < 16 → okS (F j) := fun j hj => hk.s hj
  refine m_isDown hm.2.1.1 hm.2.1.2.1 ⟨fun h M5 e5 => ?_, fun h M5 e5 => ?_⟩
  · have e : cUp rdy off = 0 := by unfold cUp; rw [bI_0.mp h]; rfl
    have m5 : MST M5 S rdy off chg wts hld pg w bg F := by rw [e5]; exact hm.thr
    have f5 : frM M M5 := by rw [e5]; exact (frM.rf M).s (by omega)
    have t5 : M5 116 0 = 0 := by rw [e5, sd_s_self]
    obtain ⟨u1, u2, u3, u4, u5, u6, u7, u8, u9⟩ := m5.2.1
    rw [t5, u5, show (0 : Int32) = zN 0 from rfl, zN_eq (by omega) (by omega)]
    refine ⟨fun q => absurd q (by decide), fun _ => ⟨fun q M6 e6 => ?_, fun q => ⟨Or.inl rfl, h00 M5 e q m5 f5 t5⟩⟩⟩
    rw [show (1 : Int32) = zN 1 from rfl, zN_sub (by omega)] at e6
    have m6 : MST M6 S rdy off chg (wts - 1) hld pg w bg F := by
      refine m5.c0 (fun c x y => by rw [e6, sd_s_o (by omega)]) (fun j x y => by rw [e6, sd_s_ne (by omega)]) (by rw [e6, sd_s_ne (by omega)]; exact u6) (by rw [e6, sd_s_self]) (by rw [e6, sd_s_ne (by omega)]; exact u2) (by rw [e6, sd_s_ne (by omega)]; exact u7) ?_
      rw [e6, sd_s_ne (by omega), sd_s_ne (by omega), sd_s_ne (by omega), sd_s_ne (by omega)]; exact u8
    have f6 : frM M M6 := by rw [e6]; exact f5.s (by omega)
    have t6 : M6 116 0 = 0 := by rw [e6, sd_s_ne (by omega)]; exact t5
    rw [m6.2.1.2.2.2.2.1, zN_le (by omega) (by omega)]
    refine ⟨fun q2 => ?_, fun q2 => ⟨Or.inl rfl, h01 M6 e (by omega) m6 f6 t6⟩⟩
    have w1 : wts = 1 := by omega
    obtain ⟨k1, k2⟩ := hk.2.2.2.2.2 (by omega)
    have hch := hk.2.1
    refine m_copy (a := 2) (b := 16) (by omega) (by omega) (by omega) (m6.2.2 2 (by omega)) (hF 2 (by omega)) (fun M7 a1 a2 => ?_)
    have m7 := m6.out hF a1
    refine O_become (p := 16) m7 (by omega) hF (Or.inr rfl) a2 (hF 2 (by omega)) (fun hs => by rw [k2] at hs; cases hs) (fun _ M8 m8 _ f8 sl => ⟨Or.inr rfl, ?_⟩)
    rw [w1] at m8
    exact h02 M8 e w1 m8 (f6.tr (a1.fm.tr f8)) (by rw [sl 0 (by omega) (by omega), a1.1 116 (by omega)]; exact t6)
  · have e : cUp rdy off = 1 := by unfold cUp; rw [bI_1.mp h]; rfl
    subst e5
    rw [sd_s_self]
    rw [e] at h1
    exact ⟨fun _ => ⟨Or.inl rfl, h1 _ _ (by decide) hm.thr ((frM.rf M).s (by omega)) (sd_s_self _ _ _ _)⟩, fun q => absurd (by decide) q⟩
theorem J_tick {t : Nat} (ht : t ≤ 1000) {M : sdM} (h : INV t M) : w_L_tick M (fun c M1 => w_O_tick M1 (fun b M2 => goodZ (t + 1) c b M2)) := by
  obtain ⟨S, rdy, off, chg, wts, hld, pg, w, bg, F, hc, hm, hk⟩ := h
  have hw := hk.2.2.1
  by_cases e : cUp rdy off = 0
  · by_cases w0 : wts = 0
    · exact joinZ (r := 0) (fun Q a b => C_tick hc hk ht a (fun M' x y => b M' x) (fun M' x y => by omega) (fun M' x y => by omega)) (fun M1 d Q a b => O_tick d hk ht a (fun M' x y => b M' x) (fun M' x y => by omega) (fun M' x y => by omega)) hm (fun _ _ d f => d.fc f) (fun _ _ c f => c.fm f) (fun _ _ c f => c.fm f) (fun M' c d => ⟨_, _, _, _, _, _, _, _, _, _, c, d, hk.mono⟩) (fun M' c d => ⟨_, _, _, _, _, _, _, _, _, _, c, d, hk.mono⟩)
    · by_cases w1 : wts = 1
      · refine joinZ (r := 1) (fun Q a b => C_tick hc hk ht a (fun M' x y => by omega) (fun M' x y => by omega) (fun M' x y => b M' x)) (fun M1 d Q a b => O_tick d hk ht a (fun M' x y => by omega) (fun M' x y => by omega) (fun M' x y => b M' x)) hm (fun _ _ d f => d.fc f) (fun _ _ c f => c.fm f) (fun _ _ c f => c.fm f) (fun M' c d => ⟨_, _, _, _, _, _, _, _, _, _, c, d, hk.mono⟩) (fun M' c d => ⟨_, _, _, _, _, _, _, _, _, _, c, d, ?_⟩)
        exact hk.shift (hk.2.2.2.2.1 2 (by omega)) (by omega) (hk.2.2.2.2.2 (by omega)).2
      · exact joinZ (r := 0) (fun Q a b => C_tick hc hk ht a (fun M' x y => by omega) (fun M' x y => b M' x) (fun M' x y => by omega)) (fun M1 d Q a b => O_tick d hk ht a (fun M' x y => by omega) (fun M' x y => b M' x) (fun M' x y => by omega)) hm (fun _ _ d f => d.fc f) (fun _ _ c f => c.fm f) (fun _ _ c f => c.fm f) (fun M' c d => ⟨_, _, _, _, _, _, _, _, _, _, c, d, hk.mono⟩) (fun M' c d => ⟨_, _, _, _, _, _, _, _, _, _, c, d, (hk.wt (by omega)).mono⟩)
  · exact joinZ' (fun Q a => C_tick hc hk ht a (fun M' x => (e x).elim) (fun M' x => (e x).elim) (fun M' x => (e x).elim)) (fun M1 d Q a => O_tick d hk ht a (fun M' x => (e x).elim) (fun M' x => (e x).elim) (fun M' x => (e x).elim)) e hm hk
def cRb (rdy off : Bool) (bg : Nat → Bool) (chg : Nat) (a n : Int32) : Int32 := if cNeeds rdy off bg a = 0 then (if decide (n < 0) || decide (zN (min chg 8) < n) then 3 else 0) else cNeeds rdy off bg a
def srcR (F : Nat → ASet) (n : Int32) : ASet := if n = 0 then F 0 else F (1 + n.toNatClampNeg)
theorem p_olderCount {M : sdM} {chg : Nat} {Q : Int32 → sdM → Prop} (hch : chg < 1000000) (h7 : M 0 7 = zN chg) (hq : Q (zN (min chg 8)) M) : w_D_olderCount M Q := by
  unfold w_D_olderCount
  rw [h7]
  refine ⟨fun h => ?_, fun h => ?_⟩
  · rw [show (8 : Int32) = zN 8 from rfl, zN_lt (by omega) (by omega)] at h
    show Q 8 M
    rw [show min chg 8 = 8 by omega] at hq; exact hq
  · rw [show (8 : Int32) = zN 8 from rfl, zN_lt (by omega) (by omega)] at h
    show Q (zN chg) M
    rw [show min chg 8 = chg by omega] at hq; exact hq
theorem C_rollback {S : Sch} {rdy off : Bool} {chg wts : Nat} {hld : Int32} {pg : Nat} {w : Flt} {bg : Nat → Bool} {F : Nat → ASet} {M : sdM} {a n : Int32} {t : Nat} (hc : CST M S rdy off chg wts hld pg w bg F) (hk : OKS t S chg wts pg F) (ht : t ≤ 1000) {Q : Int32 → sdM → Prop} (h1 : ∀ M', cRb rdy off bg chg a n ≠ 0 → CST M' S rdy off chg wts hld pg w bg F → frC M M' → Q (cRb rdy off bg chg a n) M') (h0 : ∀ M', cRb rdy off bg chg a n = 0 → CST M' S rdy off chg wts hld pg w bg (upSes F a.toNatClampNeg (srcR F n) (F 0)) → frC M M' → M' 134 0 = zN (min chg 8) → Q 0 M') : w_L_rollback M a n Q := by
  have hch := hk.2.1
  obtain ⟨g1, g2, g3, g4, g5, g6, g7, g8⟩ := hc.2.1
  have bad : ∀ c : Int32, cRb rdy off bg chg a n = c → c ≠ 0 → Q c M := fun c e hne => by
    rw [e] at h1; exact h1 M hne hc (frC.rf _)
  refine p_needs g1 g2 g8 (fun e => Or.inl ⟨rfl, bad 1 ?_ (by decide)⟩) (fun e => Or.inr (Or.inl ⟨rfl, bad 2 ?_ (by decide)⟩)) (fun e s hs ea hb => ?_)
  · unfold cRb; rw [e]; rfl
  · unfold cRb; rw [e]; rfl
  · subst ea
    have c5 : cRb rdy off bg chg (zN s) n = if decide (n < 0) || decide (zN (min chg 8) < n) then 3 else 0 := by unfold cRb; rw [if_pos e]
    rw [zN_nat (by omega)] at h0
    refine ⟨fun q => Or.inr (Or.inr ⟨rfl, bad 3 ?_ (by decide)⟩), fun q => p_olderCount (by omega) g3 ⟨fun q2 => ⟨(zN_in (by omega)).mpr hs, ?_⟩, fun q2 => Or.inr (Or.inr ⟨rfl, bad 3 ?_ (by decide)⟩)⟩⟩
    · rw [c5, decide_eq_true q]; rfl
    · have e0 : cRb rdy off bg chg (zN s) n = 0 := by rw [c5, decide_eq_false q, decide_eq_false (fun x => i_nle.mpr x q2)]; rfl
      obtain ⟨m, hm, rfl⟩ := zN_of q
      rw [zN_le hm (by omega)] at q2
      have go : ∀ p, setC p → p ≠ 84 + 11 * s → p ≠ 89 + 11 * s → RC M p (srcR F (zN m)) → okS (srcR F (zN m)) → k_D_rollback_58 (fun r M1 => ∀ M2 : sdM, M2 = sd_s M1 134 0 r → Q 0 M2) (fun E M1 => (E = "java/lang/IllegalStateException" ∧ Q 1 M1) ∨ (E = "java/lang/IndexOutOfBoundsException" ∧ Q 2 M1) ∨ (E = "java/lang/IllegalArgumentException" ∧ Q 3 M1)) M (83 + 11 * s) p := by
        intro p sp n1 n2 hR hO
        refine C_take hc hs sp (Or.inl rfl) n1 n2 (by omega) (by omega) hR (hc.2.2.1 0 (by omega) (by omega)) hO (hk.s (by omega)) (fun M' c' f' => p_olderCount (by omega) c'.2.1.2.2.1 (fun M2 e2 => ?_))
        subst e2
        exact h0 _ e0 c'.o134 (f'.s (by omega)) (sd_s_self _ _ _ _)
      rw [zN_nat (by omega)]
      refine ⟨fun q3 => ?_, fun q3 => ?_⟩
      · have hm0 : m ≠ 0 := fun x => q3 (by rw [x]; rfl)
        have es : srcR F (zN m) = F (1 + m) := by unfold srcR; rw [if_neg q3, zN_nat hm]
        unfold w_D_olderSet
        rw [g3, zN_sub (by omega)]
        refine p_fmod (by omega) ⟨(zN_in (by omega)).mpr (Nat.mod_lt _ (by omega)), ?_⟩
        rw [zN_nat (by omega)]
        have ec : cellOf chg (1 + m) = 43 + 5 * ((chg - m) % 8) := by
          unfold cellOf; rw [if_neg (by omega), if_neg (by omega), if_pos (by omega)]; omega
        refine go _ (Or.inr (Or.inr (Or.inr (Or.inl ⟨_, Nat.mod_lt _ (by omega), rfl⟩)))) (by omega) (by omega) ?_ ?_
        · rw [es, ← ec]; exact hc.2.2.1 (1 + m) (by omega) (by omega)
        · rw [es]; exact hk.s (by omega)
      · have es : srcR F (zN m) = F 0 := by unfold srcR; rw [if_pos q3]
        refine go 25 (Or.inl rfl) (by omega) (by omega) ?_ ?_
        · rw [es]; exact hc.2.2.1 0 (by omega) (by omega)
        · rw [es]; exact hk.s (by omega)
    · rw [c5, decide_eq_true (i_nle.mp q2)]; simp
theorem O_rollback {S : Sch} {rdy off : Bool} {chg wts : Nat} {hld : Int32} {pg : Nat} {w : Flt} {bg : Nat → Bool} {F : Nat → ASet} {M : sdM} {a n : Int32} {t : Nat} (hm : MST M S rdy off chg wts hld pg w bg F) (hk : OKS t S chg wts pg F) (ht : t ≤ 1000) {Q : Int32 → sdM → Prop} (h1 : ∀ M' b, cRb rdy off bg chg a n ≠ 0 → MST M' S rdy off chg wts hld pg w bg F → frM M M' → M' 116 0 = cRb rdy off bg chg a n → Q b M') (h0 : ∀ M', cRb rdy off bg chg a n = 0 → MST M' S rdy off chg wts hld pg w bg (upSes F a.toNatClampNeg (srcR F n) (F 0)) → frM M M' → M' 116 0 = 0 → Q (zN (min chg 8)) M') : w_O_rollback M a n Q := by
  have hch := hk.2.1
  have hF : ∀ j, j < 16 → okS (F j) := fun j hj => hk.s hj
  obtain ⟨g1, g2, g3, g4, g5, g6, g7, g8, g9⟩ := hm.2.1
  refine m_needs g1 g2 g9 (fun M5 e5 => ?_)
  have m5 : MST M5 S rdy off chg wts hld pg w bg F := by rw [e5]; exact hm.thr
  have f5 : frM M M5 := by rw [e5]; exact (frM.rf M).s (by omega)
  have t5 : M5 116 0 = cNeeds rdy off bg a := by rw [e5, sd_s_self]
  have bad : ∀ c : Int32, cRb rdy off bg chg a n = c → ¬ c ≤ 0 → k_O_rollback_37 Q M5 a n c := by
    intro c he hne M6 e6
    subst e6
    rw [sd_s_self]
    rw [he] at h1
    exact ⟨fun h => absurd h hne, fun _ => h1 _ _ (fun h => hne (by rw [h]; decide)) m5.thr (f5.s (by omega)) (sd_s_self _ _ _ _)⟩
  unfold k_O_rollback_33
  rw [t5]
  have z20 : M5 116 20 = zN (min chg 8) := m5.2.1.2.2.2.1
  rw [z20]
  rcases cNeeds_cases rdy off bg a with e | e | e
  · have c5 : cRb rdy off bg chg a n = if decide (n < 0) || decide (zN (min chg 8) < n) then 3 else 0 := by unfold cRb; rw [if_pos e]
    obtain ⟨s, hs, rfl, -, -, -⟩ := cNeeds_0 e
    rw [zN_nat (by omega)] at h0
    rw [e]
    refine ⟨fun q => absurd rfl q, fun _ => ⟨fun q => bad 3 ?_ (by decide), fun q => ⟨fun q2 M6 e6 => ?_, fun q2 => bad 3 ?_ (by decide)⟩⟩⟩
    · rw [c5, decide_eq_true q]; rfl
    · have e0 : cRb rdy off bg chg (zN s) n = 0 := by rw [c5, decide_eq_false q, decide_eq_false (fun x => i_nle.mpr x q2)]; rfl
      obtain ⟨m, hm', rfl⟩ := zN_of q
      rw [zN_le hm' (by omega)] at q2
      have m6 : MST M6 S rdy off chg wts hld pg w bg F := by rw [e6]; exact m5.thr
      have f6 : frM M M6 := by rw [e6]; exact f5.s (by omega)
      have t6 : M6 116 0 = 0 := by rw [e6, sd_s_self]
      rw [t6]
      refine ⟨fun _ => ?_, fun h => absurd (by decide) h⟩
      rw [show (13 : Int32) = zN 13 from rfl, zN_add]
      refine m_copy (a := 0) (by omega) (by omega) (by omega) (m6.2.2 0 (by omega)) (hF 0 (by omega)) (fun M7 a1 a2 => ?_)
      have m7 := m6.put hF a1 a2
      have ok7 : ∀ j, j < 16 → okS (va_up F (13 + s) (F 0) j) := by
        intro j hj
        by_cases e : j = 13 + s
        · subst e; rw [va_up_self]; exact hF 0 (by omega)
        · rw [va_up_ne _ _ e]; exact hF j hj
      have go : ∀ p, p < 10 → srcR F (zN m) = F p → k_O_rollback_72 Q M7 (zN s) (zN p) := by
        intro p hp es
        unfold k_O_rollback_72
        rw [show (10 : Int32) = zN 10 from rfl, zN_add]
        have rp := m7.2.2 p (by omega)
        rw [va_up_ne _ _ (by omega)] at rp
        refine m_copy (by omega) (by omega) (by omega) rp (hF p (by omega)) (fun M8 b1 b2 => ?_)
        have m8 := m7.put ok7 b1 b2
        rw [upSes_2 F hs, ← es] at m8
        have z8 : M8 116 20 = zN (min chg 8) := m8.2.1.2.2.2.1
        rw [z8]
        exact h0 M8 e0 m8 (f6.tr (a1.fm.tr b1.fm)) (by rw [b1.1 116 (by omega), a1.1 116 (by omega)]; exact t6)
      refine ⟨fun q3 => ?_, fun q3 => go 0 (by omega) ?_⟩
      · have hm0 : m ≠ 0 := fun x => q3 (by rw [x]; rfl)
        rw [show (2 : Int32) = zN 2 from rfl, show (1 : Int32) = zN 1 from rfl, zN_add, zN_sub (by omega), show 2 + m - 1 = 1 + m by omega]
        refine go (1 + m) (by omega) ?_
        unfold srcR; rw [if_neg q3, zN_nat hm']
      · unfold srcR; rw [if_pos q3]
    · rw [c5, decide_eq_true (i_nle.mp q2)]; simp
  all_goals
    have ec : cRb rdy off bg chg a n = cNeeds rdy off bg a := by unfold cRb; rw [if_neg (by rw [e]; decide)]
    rw [e] at ec ⊢
    exact ⟨fun _ => bad _ ec (by decide), fun h => absurd h (by decide)⟩
theorem cRb_0 {rdy off : Bool} {bg : Nat → Bool} {chg : Nat} {a n : Int32} (h : cRb rdy off bg chg a n = 0) : (∃ s, s < 3 ∧ a = zN s) ∧ ∃ m, m ≤ min chg 8 ∧ n = zN m := by
  unfold cRb at h
  split at h
  · rename_i e
    obtain ⟨s, hs, rfl, -, -, -⟩ := cNeeds_0 e
    split at h
    · cases h
    · rename_i q
      simp at q
      obtain ⟨m, hm, rfl⟩ := zN_of (i_nlt.mpr q.1)
      have := (zN_le hm (by omega)).mp q.2
      exact ⟨⟨s, hs, rfl⟩, m, this, rfl⟩
  · rename_i e; exact (e h).elim
theorem J_rollback {t : Nat} (ht : t ≤ 1000) {M : sdM} {a n : Int32} (h : INV t M) : w_L_rollback M a n (fun c M1 => w_O_rollback M1 a n (fun b M2 => goodJ (t + 1) c b M2)) := by
  obtain ⟨S, rdy, off, chg, wts, hld, pg, w, bg, F, hc, hm, hk⟩ := h
  by_cases e : cRb rdy off bg chg a n = 0
  · obtain ⟨⟨s, hs, rfl⟩, m, hm8, rfl⟩ := cRb_0 e
    refine joinJ (fun Q a b => C_rollback hc hk ht a b) (fun M1 d Q a b => O_rollback d hk ht a b) hm (fun _ _ d f => d.fc f) (fun _ _ c f => c.fm f) (fun _ _ c f => c.fm f) (fun M' c d => ⟨_, _, _, _, _, _, _, _, _, _, c, d, hk.mono⟩) (fun M' c d => ⟨_, _, _, _, _, _, _, _, _, _, c, d, ?_⟩)
    rw [zN_nat (by omega)]
    refine (hk.ses hs ?_ (hk.2.2.2.2.1 0 (by omega))).mono
    unfold srcR
    split
    · exact hk.2.2.2.2.1 0 (by omega)
    · rw [zN_nat (by omega)]; exact hk.2.2.2.2.1 _ (by omega)
  · exact joinJ' (fun Q a => C_rollback hc hk ht a (fun M' x => (e x).elim)) (fun M1 d Q a => O_rollback d hk ht a (fun M' x => (e x).elim)) e hm hk
def pagesS (A : ASet) : Nat := countS A + 1
def offS (off : Bool) (pg n : Nat) : Bool := decide (0 < pg ∧ pg ≤ n)
def pgS (pg n : Nat) : Nat := if n < pg then pg - n else 0
def okSv (pg n : Nat) : Bool := decide (pg = 0 ∨ n ≤ pg)
def savF (F : Nat → ASet) (b : Bool) : Nat → ASet := if b then va_up F 1 (F 0) else F
theorem pages_le {S : Sch} {A : ASet} (h : okA S A) : pagesS A ≤ 25 := by
  have h0 := (h 0 (by omega)).2.1
  have h1 := (h 1 (by omega)).2.1
  have h2 := (h 2 (by omega)).2.1
  have h3 := (h 3 (by omega)).2.1
  unfold pagesS countS; omega
theorem C_save {S : Sch} {rdy off : Bool} {chg wts : Nat} {hld : Int32} {pg : Nat} {w : Flt} {bg : Nat → Bool} {F : Nat → ASet} {M : sdM} {t : Nat} (hc : CST M S rdy off chg wts hld pg w bg F) (hk : OKS t S chg wts pg F) {Q : Int32 → sdM → Prop} (h1 : ∀ M', cUp rdy off ≠ 0 → CST M' S rdy off chg wts hld pg w bg F → frC M M' → Q (cUp rdy off) M') (h0 : ∀ M', cUp rdy off = 0 → CST M' S rdy (offS off pg (pagesS (F 0))) chg wts hld (pgS pg (pagesS (F 0))) w bg (savF F (okSv pg (pagesS (F 0)))) → frC M M' → M' 134 0 = (if okSv pg (pagesS (F 0)) then zN (pagesS (F 0)) else -1) → Q 0 M') : w_L_save M Q := by
  obtain ⟨g1, g2, g3, g4, g5, g6, g7, g8⟩ := hc.2.1
  have hp := hk.2.2.2.1
  have hpg := pages_le (hk.2.2.2.2.1 0 (by omega))
  refine p_rdy g1 g2 (fun h => ⟨rfl, ?_⟩) (fun h => ?_)
  · have e : cUp rdy off = 1 := by unfold cUp; rw [h]; rfl
    rw [e] at h1; exact h1 M (by decide) hc (frC.rf _)
  · have e : cUp rdy off = 0 := by unfold cUp; rw [h]; rfl
    have hoff : off = false := by
      cases off with
      | false => rfl
      | true => cases h
    refine p_entryCount (hc.2.2.1 0 (by omega) (by omega)) ?_
    rw [zN_succ, show countS (F 0) + 1 = pagesS (F 0) from rfl]
    generalize hn : pagesS (F 0) = n at *
    -- the pages are written, or the power fails
    have good : ∀ M1, okSv pg n = true → CST M1 S rdy (offS off pg n) chg wts hld (pgS pg n) w bg F → frC M M1 → w_S_copyFrom 30 M1 25 (fun M12 => ∀ M2 : sdM, M2 = sd_s M12 134 0 (zN n) → Q 0 M2) := by
      intro M1 hg c1 f1
      have s30 : setC 30 := Or.inr (Or.inl rfl)
      refine p_copyFrom (by omega) (c1.2.2.1 0 (by omega) (by omega)) (hk.s (by omega)) (c1.gok (Or.inl rfl)) (fun M3 a1 a2 a3 M2 e2 => ?_)
      subst e2
      refine h0 _ e ?_ ((f1.tr (a1.fc s30)).s (by omega)) (by rw [sd_s_self, hg]; rfl)
      rw [hg]
      exact (c1.put (j0 := 1) (by omega) a1 a2 a3).o134
    have fail : ∀ s0 : Int32, s0 = bI (okSv pg n) → 0 < pg → pg ≤ n → k_D_writePages_43 (fun r11 M10 => (¬ r11 = 0 → w_S_copyFrom 30 M10 25 (fun M12 => ∀ M2 : sdM, M2 = sd_s M12 134 0 (zN n) → Q 0 M2)) ∧ (r11 = 0 → ∀ M2 : sdM, M2 = sd_s M10 134 0 (-1 : Int32) → Q 0 M2)) M s0 := by
      intro s0 es p1 p2
      refine ⟨Or.inr rfl, fun M1 e1 M2 e2 => ⟨by rw [es]; exact bI_B _, ?_⟩⟩
      have c2 : CST M2 S rdy (offS off pg n) chg wts hld (pgS pg n) w bg F := by
        refine hc.c0 (fun c x _ => by rw [e2, sd_s_o x, e1, sd_s_o x]) (by rw [e2, sd_s_ne (by omega), e1, sd_s_ne (by omega)]) (by rw [e2, sd_s_ne (by omega), e1, sd_s_ne (by omega)]; exact g4) (by rw [e2, sd_s_ne (by omega), e1, sd_s_ne (by omega)]; exact g5) (by rw [e2, sd_s_ne (by omega), e1, sd_s_self]; unfold offS; rw [decide_eq_true ⟨p1, p2⟩]; rfl) (by rw [e2, sd_s_self]; unfold pgS; rw [if_neg (by omega)]; rfl)
      have f2 : frC M M2 := by rw [e2, e1]; exact ((frC.rf M).s (by omega)).s (by omega)
      subst es
      refine ⟨fun q => good M2 (bI_1.mp q) c2 f2, fun q M3 e3 => ?_⟩
      subst e3
      refine h0 _ e ?_ (f2.s (by omega)) (by rw [sd_s_self, bI_0.mp q]; rfl)
      rw [bI_0.mp q]
      exact c2.o134
    unfold w_D_writePages
    rw [g6]
    have m1 : pgI pg = -1 ↔ pg = 0 := by
      unfold pgI
      split
      · rename_i q; exact ⟨fun _ => q, fun _ => rfl⟩
      · rename_i q; exact ⟨fun x => (zN_m1 (by omega) x).elim, fun x => (q x).elim⟩
    rw [m1]
    refine ⟨fun q => ?_, fun q => ⟨Or.inr rfl, fun _ => ?_, fun x => absurd x (by decide)⟩⟩
    · have ep : pgI pg = zN pg := by unfold pgI; rw [if_neg q]
      rw [ep, zN_le (by omega) (by omega), zN_eq (by omega) (by omega)]
      refine ⟨fun q2 => ⟨fun q3 => fail 0 ?_ (by omega) q2, fun q3 => fail 1 ?_ (by omega) q2⟩, fun q2 M1 e1 => ⟨Or.inr rfl, fun _ => ?_, fun x => absurd x (by decide)⟩⟩
      · unfold okSv; rw [decide_eq_false (by omega)]; rfl
      · unfold okSv; rw [decide_eq_true (by omega)]; rfl
      · rw [zN_sub (by omega)] at e1
        refine good M1 (by unfold okSv; rw [decide_eq_true (by omega)]) ?_ (by rw [e1]; exact (frC.rf M).s (by omega))
        refine hc.c0 (fun c x _ => by rw [e1, sd_s_o x]) (by rw [e1, sd_s_ne (by omega)]) (by rw [e1, sd_s_ne (by omega)]; exact g4) (by rw [e1, sd_s_ne (by omega)]; exact g5) (by rw [e1, sd_s_ne (by omega), g2, hoff]; unfold offS; rw [decide_eq_false (by omega)]) (by rw [e1, sd_s_self, show pgS pg n = pg - n by unfold pgS; rw [if_pos (by omega)]]; unfold pgI; rw [if_neg (by omega)])
    · refine good M (by unfold okSv; rw [decide_eq_true (Or.inl q)]) ?_ (frC.rf M)
      refine hc.c0 (fun c x _ => rfl) rfl g4 g5 (by rw [g2, hoff]; unfold offS; rw [decide_eq_false (by omega)]) (by rw [g6, q]; unfold pgS; rw [if_neg (by omega)])
theorem O_save {S : Sch} {rdy off : Bool} {chg wts : Nat} {hld : Int32} {pg : Nat} {w : Flt} {bg : Nat → Bool} {F : Nat → ASet} {M : sdM} {t : Nat} (hm : MST M S rdy off chg wts hld pg w bg F) (hk : OKS t S chg wts pg F) {Q : Int32 → sdM → Prop} (h1 : ∀ M' b, cUp rdy off ≠ 0 → MST M' S rdy off chg wts hld pg w bg F → frM M M' → M' 116 0 = cUp rdy off → Q b M') (h0 : ∀ M', cUp rdy off = 0 → MST M' S rdy (offS off pg (pagesS (F 0))) chg wts hld (pgS pg (pagesS (F 0))) w bg (savF F (okSv pg (pagesS (F 0)))) → frM M M' → M' 116 0 = 0 → Q (if okSv pg (pagesS (F 0)) then zN (pagesS (F 0)) else -1) M') : w_O_save M Q := by
  have hp := hk.2.2.2.1
  have hpg := pages_le (hk.2.2.2.2.1 0 (by omega))
  have hF : ∀ j, j < 16 → okS (F j) := fun j hj => hk.s hj
  refine m_isDown hm.2.1.1 hm.2.1.2.1 ⟨fun h M5 e5 => ?_, fun h M5 e5 => ?_⟩
  · have e : cUp rdy off = 0 := by unfold cUp; rw [bI_0.mp h]; rfl
    have m5 : MST M5 S rdy off chg wts hld pg w bg F := by rw [e5]; exact hm.thr
    have f5 : frM M M5 := by rw [e5]; exact (frM.rf M).s (by omega)
    have t5 : M5 116 0 = 0 := by rw [e5, sd_s_self]
    obtain ⟨u1, u2, u3, u4, u5, u6, u7, u8, u9⟩ := m5.2.1
    have c : ∀ l, l < 4 → M5 129 l = zN ((F 0) l).length := fun l hl => by
      have := (m5.2.2 0 (by omega) l hl).1
      rw [Nat.mul_zero, Nat.zero_add] at this; exact this
    have ep : ((((1 : Int32) + (M5 129 (0 : Int32).toNatClampNeg)) + (M5 129 (1 : Int32).toNatClampNeg)) + (M5 129 (2 : Int32).toNatClampNeg)) + (M5 129 (3 : Int32).toNatClampNeg) = zN (pagesS (F 0)) := by
      rw [show (0 : Int32).toNatClampNeg = 0 from rfl, show (1 : Int32).toNatClampNeg = 1 from rfl, show (2 : Int32).toNatClampNeg = 2 from rfl, show (3 : Int32).toNatClampNeg = 3 from rfl, c 0 (by omega), c 1 (by omega), c 2 (by omega), c 3 (by omega), show (1 : Int32) = zN 1 from rfl, zN_add, zN_add, zN_add, zN_add]
      unfold pagesS countS; congr 1; omega
    rw [t5, ep, u7]
    generalize hn : pagesS (F 0) = n at *
    refine ⟨fun _ => ⟨(zN_in (a := 0) (by omega)).mpr (by omega), (zN_in (a := 1) (by omega)).mpr (by omega), (zN_in (a := 2) (by omega)).mpr (by omega), (zN_in (a := 3) (by omega)).mpr (by omega), ?_⟩, fun h => absurd (by decide) h⟩
    have core : ∀ s1 : Int32, s1 = bI (offS off pg n) → k_O_save_76 Q M5 (zN n) s1 := by
      intro s1 es
      refine ⟨by rw [es]; exact bI_B _, fun M6 e6 => ?_⟩
      have z26 : M6 116 26 = zN pg := by rw [e6, sd_s_ne (by omega)]; exact u7
      have c119 : ∀ v x2 : Int32, v = zN (pgS pg n) → x2 = bI (okSv pg n) → k_O_save_119 Q M6 (zN n) x2 v := by
        intro v x2 ev ex M7 e7
        subst ex
        have m7 : MST M7 S rdy (offS off pg n) chg wts hld (pgS pg n) w bg F := by
          refine m5.c0 (fun c x y => by rw [e7, sd_s_o (by omega), e6, sd_s_o (by omega)]) (fun j x y => by rw [e7, sd_s_ne (by omega), e6, sd_s_ne (by omega)]) (by rw [e7, sd_s_ne (by omega), e6, sd_s_ne (by omega)]; exact u6) (by rw [e7, sd_s_ne (by omega), e6, sd_s_ne (by omega)]; exact u5) (by rw [e7, sd_s_ne (by omega), e6, sd_s_self]; exact es) (by rw [e7, sd_s_self]; exact ev) ?_
          rw [e7, sd_s_ne (by omega), e6, sd_s_ne (by omega), sd_s_ne (by omega), sd_s_ne (by omega), sd_s_ne (by omega), sd_s_ne (by omega), sd_s_ne (by omega), sd_s_ne (by omega)]; exact u8
        have f7 : frM M M7 := by rw [e7, e6]; exact (f5.s (by omega)).s (by omega)
        have t7 : M7 116 0 = 0 := by rw [e7, sd_s_ne (by omega), e6, sd_s_ne (by omega)]; exact t5
        refine ⟨fun q => ?_, fun q => ?_⟩
        · rw [bI_1.mp q] at h0
          refine m_copy (a := 0) (b := 1) (by omega) (by omega) (by omega) (m7.2.2 0 (by omega)) (hF 0 (by omega)) (fun M8 a1 a2 => ?_)
          exact h0 M8 e (m7.put hF a1 a2) (f7.tr a1.fm) (by rw [a1.1 116 (by omega)]; exact t7)
        · rw [bI_0.mp q] at h0
          exact h0 M7 e m7 f7 t7
      have c99 : ∀ x2 : Int32, x2 = bI (okSv pg n) → k_O_save_99 Q M6 (zN n) x2 := by
        intro x2 ex
        unfold k_O_save_99
        rw [z26, zN_le (by omega) (by omega)]
        refine ⟨fun q => c119 0 x2 ?_ ex, fun q => c119 _ x2 ?_ ex⟩
        · unfold pgS; rw [if_neg (by omega)]; rfl
        · unfold pgS; rw [if_pos (by omega), zN_sub (by omega)]
      rw [z26, show (0 : Int32) = zN 0 from rfl, zN_eq (by omega) (by omega), zN_lt (by omega) (by omega)]
      refine ⟨fun q => c99 1 ?_, fun q => ⟨fun q2 => c99 0 ?_, fun q2 => c99 1 ?_⟩⟩
      · unfold okSv; rw [decide_eq_true (Or.inl q)]; rfl
      · unfold okSv; rw [decide_eq_false (by omega)]; rfl
      · unfold okSv; rw [decide_eq_true (by omega)]; rfl
    rw [zN_le0 (by omega), zN_lt (by omega) (by omega)]
    refine ⟨fun q => core 0 ?_, fun q => ⟨fun q2 => core 0 ?_, fun q2 => core 1 ?_⟩⟩
    · unfold offS; rw [decide_eq_false (by omega)]; rfl
    · unfold offS; rw [decide_eq_false (by omega)]; rfl
    · unfold offS; rw [decide_eq_true (by omega)]; rfl
  · have e : cUp rdy off = 1 := by unfold cUp; rw [bI_1.mp h]; rfl
    subst e5
    rw [sd_s_self]
    rw [e] at h1
    exact ⟨fun h => absurd h (by decide), fun _ => h1 _ _ (by decide) hm.thr ((frM.rf M).s (by omega)) (sd_s_self _ _ _ _)⟩
theorem OKS.sav {t : Nat} {S : Sch} {chg wts pg : Nat} {F : Nat → ASet} {b : Bool} (h : OKS t S chg wts pg F) : OKS t S chg wts pg (savF F b) := by
  unfold savF
  split
  · refine ⟨h.1, h.2.1, h.2.2.1, h.2.2.2.1, fun j hj => ?_, fun hw => ?_⟩
    · by_cases e : j = 1
      · subst e; rw [va_up_self]; exact h.2.2.2.2.1 0 (by omega)
      · rw [va_up_ne _ _ e]; exact h.2.2.2.2.1 j hj
    · rw [va_up_ne _ _ (by omega), va_up_ne _ _ (by omega)]; exact h.2.2.2.2.2 hw
  · exact h
theorem J_save {t : Nat} {M : sdM} (h : INV t M) : w_L_save M (fun c M1 => w_O_save M1 (fun b M2 => goodJ (t + 1) c b M2)) := by
  obtain ⟨S, rdy, off, chg, wts, hld, pg, w, bg, F, hc, hm, hk⟩ := h
  have hp := hk.2.2.2.1
  exact joinJ (fun Q a b => C_save hc hk a b) (fun M1 d Q a b => O_save d hk a b) hm (fun _ _ d f => d.fc f) (fun _ _ c f => c.fm f) (fun _ _ c f => c.fm f) (fun M' c d => ⟨_, _, _, _, _, _, _, _, _, _, c, d, hk.mono⟩) (fun M' c d => ⟨_, _, _, _, _, _, _, _, _, _, c, d, (hk.pgs (by unfold pgS; split <;> omega)).sav.mono⟩)
/-- what each call without a code has to do -/
def goodB (t : Nat) (r b : Int32) (M2 : sdM) : Prop := r = b ∧ INV t M2
theorem va_up3 {bg : Nat → Bool} : va_up (va_up (va_up bg 0 false) 1 false) 2 false = fun s => if s < 3 then false else bg s := by
  funext s
  unfold va_up
  by_cases h2 : s = 2
  · rw [if_pos h2, if_pos (by omega)]
  · rw [if_neg h2]
    by_cases h1 : s = 1
    · rw [if_pos h1, if_pos (by omega)]
    · rw [if_neg h1]
      by_cases h0 : s = 0
      · rw [if_pos h0, if_pos (by omega)]
      · rw [if_neg h0, if_neg (by omega)]
theorem C_rebootEnd {S : Sch} {rdy off : Bool} {chg wts : Nat} {hld : Int32} {pg : Nat} {w : Flt} {bg : Nat → Bool} {F : Nat → ASet} {M : sdM} {Q : Int32 → sdM → Prop} (hc : CST M S rdy off chg wts hld pg w bg F) (hq : ∀ M', CST M' S rdy off chg 0 (-1) pg w (va_up (va_up (va_up bg 0 false) 1 false) 2 false) F → frC M M' → Q 1 M') : ∃ N, h_D_reboot_25 Q N M 0 := by
  have vi : ∀ s, s < 3 → vp_in (zN s) 3 := fun s hs => (zN_in (by omega)).mpr hs
  refine ⟨4, ⟨fun h => absurd h (by decide), fun _ => ⟨vi 0 (by omega), Or.inl rfl, fun M1 e1 => ?_⟩⟩⟩
  refine ⟨fun h => absurd h (by decide), fun _ => ⟨vi 1 (by omega), Or.inl rfl, fun M2 e2 => ?_⟩⟩
  refine ⟨fun h => absurd h (by decide), fun _ => ⟨vi 2 (by omega), Or.inl rfl, fun M3 e3 => ?_⟩⟩
  refine ⟨fun _ M4 e4 M5 e5 => ⟨Or.inr rfl, ?_⟩, fun h => absurd (by decide) h⟩
  have c1 : CST M1 S rdy off chg wts hld pg w (va_up bg 0 false) F := by rw [e1]; exact hc.bgn (b := false) (s := 0) (by omega)
  have c2 : CST M2 S rdy off chg wts hld pg w (va_up (va_up bg 0 false) 1 false) F := by rw [e2]; exact c1.bgn (b := false) (s := 1) (by omega)
  have c3 : CST M3 S rdy off chg wts hld pg w (va_up (va_up (va_up bg 0 false) 1 false) 2 false) F := by rw [e3]; exact c2.bgn (b := false) (s := 2) (by omega)
  obtain ⟨g1, g2, g3, g4, g5, g6, g7, g8⟩ := c3.2.1
  have f5 : frC M M5 := by rw [e5, e4, e3, e2, e1]; exact (((((frC.rf M).s (by decide)).s (by decide)).s (by decide)).s (by omega)).s (by omega)
  refine hq M5 (c3.c0 (fun c x _ => by rw [e5, sd_s_o x, e4, sd_s_o x]) (by rw [e5, sd_s_ne (by omega), e4, sd_s_ne (by omega)]) (by rw [e5, sd_s_self]; rfl) (by rw [e5, sd_s_ne (by omega), e4, sd_s_self]) (by rw [e5, sd_s_ne (by omega), e4, sd_s_ne (by omega)]; exact g2) (by rw [e5, sd_s_ne (by omega), e4, sd_s_ne (by omega)]; exact g6)) f5
theorem O_rebootEnd {S : Sch} {rdy off : Bool} {chg wts : Nat} {hld : Int32} {pg : Nat} {w : Flt} {bg : Nat → Bool} {F : Nat → ASet} {M : sdM} {Q : Int32 → sdM → Prop} (hm : MST M S rdy off chg wts hld pg w bg F) (hq : ∀ M', MST M' S rdy off chg 0 (-1) pg w (va_up (va_up (va_up bg 0 false) 1 false) 2 false) F → frM M M' → Q 1 M') : ∃ N, h_O_reboot_27 Q N M 0 := by
  have vi : ∀ s, s < 3 → vp_in (zN s) 3 := fun s hs => (zN_in (by omega)).mpr hs
  refine ⟨4, ⟨fun h => absurd h (by decide), fun _ => ⟨vi 0 (by omega), Or.inl rfl, fun M1 e1 => ?_⟩⟩⟩
  refine ⟨fun h => absurd h (by decide), fun _ => ⟨vi 1 (by omega), Or.inl rfl, fun M2 e2 => ?_⟩⟩
  refine ⟨fun h => absurd h (by decide), fun _ => ⟨vi 2 (by omega), Or.inl rfl, fun M3 e3 => ?_⟩⟩
  refine ⟨fun _ M4 e4 M5 e5 => ⟨Or.inr rfl, ?_⟩, fun h => absurd (by decide) h⟩
  have m1 : MST M1 S rdy off chg wts hld pg w (va_up bg 0 false) F := by rw [e1]; exact hm.bgn (b := false) (s := 0)
  have m2 : MST M2 S rdy off chg wts hld pg w (va_up (va_up bg 0 false) 1 false) F := by rw [e2]; exact m1.bgn (b := false) (s := 1)
  have m3 : MST M3 S rdy off chg wts hld pg w (va_up (va_up (va_up bg 0 false) 1 false) 2 false) F := by rw [e3]; exact m2.bgn (b := false) (s := 2)
  obtain ⟨u1, u2, u3, u4, u5, u6, u7, u8, u9⟩ := m3.2.1
  have f5 : frM M M5 := by rw [e5, e4, e3, e2, e1]; exact (((((frM.rf M).s (by omega)).s (by omega)).s (by omega)).s (by omega)).s (by omega)
  refine hq M5 (m3.c0 (fun c x y => by rw [e5, sd_s_o (by omega), e4, sd_s_o (by omega)]) (fun j x y => by rw [e5, sd_s_ne (by omega), e4, sd_s_ne (by omega)]) (by rw [e5, sd_s_ne (by omega), e4, sd_s_self]) (by rw [e5, sd_s_self]; rfl) (by rw [e5, sd_s_ne (by omega), e4, sd_s_ne (by omega)]; exact u2) (by rw [e5, sd_s_ne (by omega), e4, sd_s_ne (by omega)]; exact u7) ?_) f5
  rw [e5, sd_s_ne (by omega), e4, sd_s_ne (by omega), sd_s_ne (by omega), sd_s_ne (by omega), sd_s_ne (by omega), sd_s_ne (by omega), sd_s_ne (by omega), sd_s_ne (by omega)]; exact u8
theorem CST.pow {S : Sch} {rdy off : Bool} {chg wts : Nat} {hld : Int32} {pg : Nat} {w : Flt} {bg : Nat → Bool} {F : Nat → ASet} {M : sdM} {b : Bool} (hc : CST M S rdy off chg wts hld pg w bg F) : CST (sd_s M 0 10 (bI b)) S rdy b chg wts hld pg w bg F := by
  obtain ⟨g1, g2, g3, g4, g5, g6, g7, g8⟩ := hc.2.1
  exact hc.c0 (fun c x _ => sd_s_o x) (sd_s_ne (by omega)) (by rw [sd_s_ne (by omega)]; exact g4) (by rw [sd_s_ne (by omega)]; exact g5) (sd_s_self _ _ _ _) (by rw [sd_s_ne (by omega)]; exact g6)
theorem MST.pow {S : Sch} {rdy off : Bool} {chg wts : Nat} {hld : Int32} {pg : Nat} {w : Flt} {bg : Nat → Bool} {F : Nat → ASet} {M : sdM} {b : Bool} (hm : MST M S rdy off chg wts hld pg w bg F) : MST (sd_s M 116 25 (bI b)) S rdy b chg wts hld pg w bg F := by
  obtain ⟨u1, u2, u3, u4, u5, u6, u7, u8, u9⟩ := hm.2.1
  refine hm.c0 (fun c x y => sd_s_o (by omega)) (fun j x y => sd_s_ne (by omega)) (by rw [sd_s_ne (by omega)]; exact u6) (by rw [sd_s_ne (by omega)]; exact u5) (sd_s_self _ _ _ _) (by rw [sd_s_ne (by omega)]; exact u7) ?_
  rw [sd_s_ne (by omega), sd_s_ne (by omega), sd_s_ne (by omega), sd_s_ne (by omega)]; exact u8
theorem J_reboot {t : Nat} (ht : t ≤ 1000) {M : sdM} (h : INV t M) : w_D_reboot M (fun r M1 => w_O_reboot M1 (fun b M2 => goodB (t + 1) r b M2)) := by
  obtain ⟨S, rdy, off, chg, wts, hld, pg, w, bg, F, hc, hm, hk⟩ := h
  have hch := hk.2.1
  have hF : ∀ j, j < 16 → okS (F j) := fun j hj => hk.s hj
  unfold w_D_reboot
  rw [hc.2.1.2.1]
  refine ⟨fun q => ⟨Or.inl rfl, fun M1 e1 => ?_⟩, fun q => ⟨Or.inl rfl, fun M1 e1 => ?_⟩⟩
  · have c1 : CST M1 S rdy false chg wts hld pg w bg F := by rw [e1]; exact hc.pow (b := false)
    have f1 : frC M M1 := by rw [e1]; exact (frC.rf M).s (by omega)
    have run : ∀ (r : Int32) (M2 : sdM) (chg' : Nat) (F' : Nat → ASet), CST M2 S rdy false chg' wts hld pg w bg F' → frC M1 M2 → OKS (t + 1) S chg' 0 pg F' → (sameS (F 0) (F 1) = true → chg' = chg ∧ F' = F) → (sameS (F 0) (F 1) = false → chg' = chg + 1 ∧ F' = shiftF F (F 1)) → ∃ N, h_D_reboot_25 (fun r M1 => w_O_reboot M1 (fun b M2 => goodB (t + 1) r b M2)) N M2 0 := by
      intro r M2 chg' F' c2 f2 hk2 hs hd
      refine C_rebootEnd c2 (fun M3 c3 f3 M4 e4 => ?_)
      have m3 : MST M3 S rdy off chg wts hld pg w bg F := ((hm.fc f1).fc f2).fc f3
      have m4 : MST M4 S rdy off chg wts hld pg w bg F := by rw [e4]; exact m3.thr
      have f4 : frM M3 M4 := by rw [e4]; exact (frM.rf _).s (by omega)
      rw [m4.2.1.2.1]
      refine ⟨fun _ => ⟨Or.inl rfl, fun M5 e5 => ?_⟩, fun q2 => (q q2).elim⟩
      have m5 : MST M5 S rdy false chg wts hld pg w bg F := by rw [e5]; exact m4.pow (b := false)
      have f5 : frM M3 M5 := by rw [e5]; exact f4.s (by omega)
      refine O_become (p := 1) m5 (by omega) hF (Or.inl rfl) (m5.2.2 1 (by omega)) (hF 1 (by omega)) (fun es => ?_) (fun es M6 m6 _ f6 sl => ?_)
      · obtain ⟨a1, a2⟩ := hs es
        subst a1; subst a2
        exact O_rebootEnd m5 (fun M7 m7 f7 => ⟨rfl, _, _, _, _, _, _, _, _, _, _, c3.fm (f5.tr f7), m7, hk2⟩)
      · obtain ⟨a1, a2⟩ := hd es
        subst a1; subst a2
        exact O_rebootEnd m6 (fun M7 m7 f7 => ⟨rfl, _, _, _, _, _, _, _, _, _, _, c3.fm (f5.tr (f6.tr f7)), m7, hk2⟩)
    refine C_change c1 (by omega) (hF 0 (by omega)) (Or.inr (Or.inl rfl)) (c1.2.2.1 1 (by omega) (by omega)) (hF 1 (by omega)) (by omega) (by omega) (fun es => ?_) (fun es M2 c2 _ f2 => ?_)
    · exact run 0 M1 chg F c1 (frC.rf _) (hk.wt (by omega)).mono (fun _ => ⟨rfl, rfl⟩) (fun x => by rw [es] at x; cases x)
    · exact run 1 M2 (chg + 1) (shiftF F (F 1)) c2 f2 (hk.shift (hk.2.2.2.2.1 1 (by omega)) (by omega) es) (fun x => by rw [es] at x; cases x) (fun _ => ⟨rfl, rfl⟩)
  · have m1 : MST M1 S rdy off chg wts hld pg w bg F := by rw [e1]; exact hm.thr
    have f1 : frM M M1 := by rw [e1]; exact (frM.rf M).s (by omega)
    rw [m1.2.1.2.1]
    exact ⟨fun q2 => (q2 q).elim, fun _ => ⟨Or.inl rfl, rfl, _, _, _, _, _, _, _, _, _, _, hc.fm f1, m1, hk.mono⟩⟩
theorem J_figure {t : Nat} (ht : t ≤ 1000) {M : sdM} {a : Int32} (h : INV t M) : w_D_figure M a (fun r M1 => w_O_figure M1 a (fun b M2 => goodB (t + 1) r b M2)) := by
  obtain ⟨S, rdy, off, chg, wts, hld, pg, w, bg, F, hc, hm, hk⟩ := h
  have hch := hk.2.1
  obtain ⟨g1, g2, g3, g4, g5, g6, g7, g8⟩ := hc.2.1
  -- the model, for each answer
  have O : ∀ r : Int32, (∀ M1, MST M1 S rdy off chg wts hld pg w bg F → CST M1 S rdy off chg wts hld pg w bg F → (a < 10 → k_O_figure_32 (fun b M2 => goodB (t + 1) r b M2) M1 a) ∧ (¬ a < 10 → w_O_isList M1 (a - 10) (fun r9 M8 => (r9 = 0 → k_O_figure_32 (fun b M2 => goodB (t + 1) r b M2) M8 a) ∧ (¬ r9 = 0 → vp_in (a - 10) 68 ∧ goodB (t + 1) r (M8 129 (a - 10).toNatClampNeg) M8)))) → w_O_figure M a (fun b M2 => goodB (t + 1) r b M2) := by
    intro r hq M1 e1
    exact hq M1 (by rw [e1]; exact hm.thr) (hc.fm (by rw [e1]; exact (frM.rf M).s (by omega)))
  have inv : ∀ M1, MST M1 S rdy off chg wts hld pg w bg F → CST M1 S rdy off chg wts hld pg w bg F → INV (t + 1) M1 := fun M1 m c => ⟨_, _, _, _, _, _, _, _, _, _, c, m, hk.mono⟩
  have small : ∀ (r : Int32), a < 10 → (∀ M1, MST M1 S rdy off chg wts hld pg w bg F → CST M1 S rdy off chg wts hld pg w bg F → k_O_figure_32 (fun b M2 => goodB (t + 1) r b M2) M1 a) → w_O_figure M a (fun b M2 => goodB (t + 1) r b M2) := fun r ha hq => O r (fun M1 m c => ⟨fun _ => hq M1 m c, fun q => absurd ha q⟩)
  have big : ∀ M1 (r : Int32), MST M1 S rdy off chg wts hld pg w bg F → CST M1 S rdy off chg wts hld pg w bg F → ¬ a = 0 → ¬ a = 1 → ¬ a = 2 → ¬ a = 3 → ¬ a = 4 → ¬ a = 5 → ¬ a = 6 → ¬ a = 7 → ¬ a = 8 → r = -1 → k_O_figure_32 (fun b M2 => goodB (t + 1) r b M2) M1 a := fun M1 r m c q0 q1 q2 q3 q4 q5 q6 q7 q8 er => ⟨fun x => (q0 x).elim, fun _ => ⟨fun x => (q1 x).elim, fun _ => ⟨fun x => (q2 x).elim, fun _ => ⟨fun x => (q3 x).elim, fun _ => ⟨fun x => (q4 x).elim, fun _ => ⟨fun x => (q5 x).elim, fun _ => ⟨fun x => (q6 x).elim, fun _ => ⟨fun x => (q7 x).elim, fun _ => ⟨fun x => (q8 x).elim, fun _ => ⟨er, inv M1 m c⟩⟩⟩⟩⟩⟩⟩⟩⟩⟩
  refine ⟨fun q => ?_, fun q0 => ⟨fun q => ?_, fun q1 => ⟨fun q => ?_, fun q2 => ⟨fun q => ?_, fun q3 => ⟨fun q => ?_, fun q4 => ⟨fun q => ?_, fun q5 => ⟨fun q => ?_, fun q6 => ⟨fun q => ?_, fun q7 => ⟨fun q => ?_, fun q8 => ?_⟩⟩⟩⟩⟩⟩⟩⟩⟩
  · subst q
    exact small _ (by decide) (fun M1 m c => ⟨fun _ => ⟨by rw [g3]; exact m.2.1.2.2.1.symm, inv M1 m c⟩, fun x => absurd rfl x⟩)
  · subst q
    refine p_olderCount (by omega) g3 (small _ (by decide) (fun M1 m c => ⟨fun x => absurd x (by decide), fun _ => ⟨fun _ => ⟨m.2.1.2.2.2.1.symm, inv M1 m c⟩, fun x => absurd rfl x⟩⟩))
  · subst q
    exact small _ (by decide) (fun M1 m c => ⟨fun x => absurd x (by decide), fun _ => ⟨fun x => absurd x (by decide), fun _ => ⟨fun _ => ⟨by rw [g4]; exact m.2.1.2.2.2.2.1.symm, inv M1 m c⟩, fun x => absurd rfl x⟩⟩⟩)
  · subst q
    exact small _ (by decide) (fun M1 m c => ⟨fun x => absurd x (by decide), fun _ => ⟨fun x => absurd x (by decide), fun _ => ⟨fun x => absurd x (by decide), fun _ => ⟨fun _ => ⟨by rw [g5]; exact m.2.1.2.2.2.2.2.1.symm, inv M1 m c⟩, fun x => absurd rfl x⟩⟩⟩⟩)
  · subst q
    have f4 : ∀ r : Int32, r = bI off → w_O_figure M 4 (fun b M2 => goodB (t + 1) r b M2) := fun r er => small _ (by decide) (fun M1 m c => ⟨fun x => absurd x (by decide), fun _ => ⟨fun x => absurd x (by decide), fun _ => ⟨fun x => absurd x (by decide), fun _ => ⟨fun x => absurd x (by decide), fun _ => ⟨fun _ => ⟨fun z => ⟨by rw [er, ← m.2.1.2.1]; exact z, inv M1 m c⟩, fun z => ⟨by rw [er, bI_1.mp (fun y => z (m.2.1.2.1.trans y))]; rfl, inv M1 m c⟩⟩, fun x => absurd rfl x⟩⟩⟩⟩⟩)
    rw [g2]
    exact ⟨fun z => f4 0 z.symm, fun z => f4 1 (by rw [bI_1.mp z]; rfl)⟩
  · subst q
    exact small _ (by decide) (fun M1 m c => ⟨fun x => absurd x (by decide), fun _ => ⟨fun x => absurd x (by decide), fun _ => ⟨fun x => absurd x (by decide), fun _ => ⟨fun x => absurd x (by decide), fun _ => ⟨fun x => absurd x (by decide), fun _ => ⟨fun _ => ⟨by rw [g7.1]; exact m.2.1.2.2.2.2.2.2.2.1.1.symm, inv M1 m c⟩, fun x => absurd rfl x⟩⟩⟩⟩⟩⟩)
  · subst q
    exact small _ (by decide) (fun M1 m c => ⟨fun x => absurd x (by decide), fun _ => ⟨fun x => absurd x (by decide), fun _ => ⟨fun x => absurd x (by decide), fun _ => ⟨fun x => absurd x (by decide), fun _ => ⟨fun x => absurd x (by decide), fun _ => ⟨fun x => absurd x (by decide), fun _ => ⟨fun _ => ⟨by rw [g7.2.1]; exact m.2.1.2.2.2.2.2.2.2.1.2.1.symm, inv M1 m c⟩, fun x => absurd rfl x⟩⟩⟩⟩⟩⟩⟩)
  · subst q
    exact small _ (by decide) (fun M1 m c => ⟨fun x => absurd x (by decide), fun _ => ⟨fun x => absurd x (by decide), fun _ => ⟨fun x => absurd x (by decide), fun _ => ⟨fun x => absurd x (by decide), fun _ => ⟨fun x => absurd x (by decide), fun _ => ⟨fun x => absurd x (by decide), fun _ => ⟨fun x => absurd x (by decide), fun _ => ⟨fun _ => ⟨by rw [g7.2.2.1]; exact m.2.1.2.2.2.2.2.2.2.1.2.2.1.symm, inv M1 m c⟩, fun x => absurd rfl x⟩⟩⟩⟩⟩⟩⟩⟩)
  · subst q
    exact small _ (by decide) (fun M1 m c => ⟨fun x => absurd x (by decide), fun _ => ⟨fun x => absurd x (by decide), fun _ => ⟨fun x => absurd x (by decide), fun _ => ⟨fun x => absurd x (by decide), fun _ => ⟨fun x => absurd x (by decide), fun _ => ⟨fun x => absurd x (by decide), fun _ => ⟨fun x => absurd x (by decide), fun _ => ⟨fun x => absurd x (by decide), fun _ => ⟨fun _ => ⟨by rw [g7.2.2.2]; exact m.2.1.2.2.2.2.2.2.2.1.2.2.2.symm, inv M1 m c⟩, fun x => absurd rfl x⟩⟩⟩⟩⟩⟩⟩⟩⟩)
  · rw [hc.1.1]
    refine ⟨fun q => small _ q (fun M1 m c => big M1 _ m c q0 q1 q2 q3 q4 q5 q6 q7 q8 rfl), fun q => ?_⟩
    -- a is at least 10, so a - 10 is not below 0
    have hge : ¬ (a - 10) < 0 := by
      rw [i_nlt] at q
      obtain ⟨n, hn, rfl⟩ := zN_of (x := a) (fun x => by
        rw [Int32.lt_iff_toInt_lt] at x
        rw [Int32.le_iff_toInt_le] at q
        have : (10 : Int32).toInt = 10 := rfl
        have : (0 : Int32).toInt = 0 := rfl
        omega)
      rw [show (10 : Int32) = zN 10 from rfl, zN_le (by omega) hn] at q
      rw [show (10 : Int32) = zN 10 from rfl, zN_sub q]
      exact zN_ge (by omega)
    have isL : (¬ zN (nlS S) ≤ a - 10) ↔ isLstB S (a - 10) = true := by
      unfold isLstB
      rw [decide_eq_true (i_nlt.mp hge), Bool.true_and, decide_eq_true_eq, i_nle]
    refine ⟨fun q9 => ?_, fun q9 => ?_⟩
    · have hno : isLstB S (a - 10) = false := by
        cases e : isLstB S (a - 10) with
        | false => rfl
        | true => exact ((isL.mpr e) q9).elim
      refine O _ (fun M1 m c => ⟨fun x => (q x).elim, fun _ => m_isList m.1 ?_⟩)
      rw [hno]
      exact ⟨fun _ => big M1 _ m c q0 q1 q2 q3 q4 q5 q6 q7 q8 rfl, fun x => absurd rfl x⟩
    · have hyes := isL.mp q9
      obtain ⟨l, b1, b2, el⟩ := lstB hk.1 hyes
      have r25 : M (25 + 1) l = zN ((F 0) l).length := (hc.2.2.1 0 (by omega) (by omega) l b2).1
      refine ⟨by rw [el]; exact (zN_in (by omega)).mpr b2, O _ (fun M1 m c => ⟨fun x => (q x).elim, fun _ => m_isList m.1 ?_⟩)⟩
      rw [hyes]
      refine ⟨fun x => absurd x (by decide), fun _ => ⟨by rw [el]; exact (zN_in (by omega)).mpr (by omega), ?_, inv M1 m c⟩⟩
      rw [el, zN_nat (by omega), r25]
      have := (m.2.2 0 (by omega) l b2).1
      rw [Nat.mul_zero, Nat.zero_add] at this
      exact this.symm
def cDif (rdy off : Bool) (bg : Nat → Bool) (D : List Flt) (a k v : Int32) : Int32 := if cNeeds rdy off bg a = 0 then (if decide (v < 0) then 2 else if decide (3 < v) then 2 else if (pickI D k).isSome then 0 else 2) else cNeeds rdy off bg a
def fldD (w : Flt) (v : Int32) : Int32 := if v = 0 then w.1 else if v = 1 then w.2.1 else if v = 2 then w.2.2.1 else w.2.2.2
def ansD (D : List Flt) (k v : Int32) : Int32 := match pickI D k with
  | some w => fldD w v
  | none => 0
def difOf (F : Nat → ASet) (a : Int32) : List Flt := difS (F (10 + a.toNatClampNeg)) (F 0) 4 0
theorem C_diff {S : Sch} {rdy off : Bool} {chg wts : Nat} {hld : Int32} {pg : Nat} {w : Flt} {bg : Nat → Bool} {F : Nat → ASet} {M : sdM} {n : Nat} {a k v : Int32} {t : Nat} (hc : CST M S rdy off chg wts hld pg w bg F) (hk : OKS t S chg wts pg F) (hn : 135 ≤ n) {Q : Int32 → sdM → Prop} (h1 : ∀ M', cDif rdy off bg (difOf F a) a k v ≠ 0 → CST M' S rdy off chg wts hld pg w bg F → frC M M' → Q (cDif rdy off bg (difOf F a) a k v) M') (h0 : ∀ M', cDif rdy off bg (difOf F a) a k v = 0 → CST M' S rdy off chg wts hld pg w bg F → frC M M' → M' 134 0 = ansD (difOf F a) k v → Q 0 M') : w_L_diff n M a k v Q := by
  obtain ⟨g1, g2, g3, g4, g5, g6, g7, g8⟩ := hc.2.1
  refine p_needs g1 g2 g8 (fun e => Or.inl ⟨rfl, ?_⟩) (fun e => Or.inr ⟨rfl, ?_⟩) (fun e s hs ea hb => ?_)
  · have e9 : cDif rdy off bg (difOf F a) a k v = 1 := by unfold cDif; rw [e]; rfl
    rw [e9] at h1; exact h1 M (by decide) hc (frC.rf _)
  · have e9 : cDif rdy off bg (difOf F a) a k v = 2 := by unfold cDif; rw [e]; rfl
    rw [e9] at h1; exact h1 M (by decide) hc (frC.rf _)
  · subst ea
    have eD : difOf F (zN s) = difS (F (10 + s)) (F 0) 4 0 := by unfold difOf; rw [zN_nat (by omega)]
    rw [eD] at h0 h1
    have c5 : cDif rdy off bg (difS (F (10 + s)) (F 0) 4 0) (zN s) k v = if decide (v < 0) then 2 else if decide (3 < v) then 2 else if (pickI (difS (F (10 + s)) (F 0) 4 0) k).isSome then 0 else 2 := by unfold cDif; rw [if_pos e]
    obtain ⟨D, hD⟩ : ∃ D, difS (F (10 + s)) (F 0) 4 0 = D := ⟨_, rfl⟩
    intro M1 e1
    refine ⟨(zN_in (by omega)).mpr hs, Or.inl rfl, fun N1 n1 N2 n2 N3 n3 N4 n4 N5 n5 N6 n6 => ?_⟩
    have low : ∀ c, c ≠ n → N6 c = M c := fun c hcc => by rw [n6, sd_s_o hcc, n5, sd_s_o hcc, n4, sd_s_o hcc, n3, sd_s_o hcc, n2, sd_s_o hcc, n1, sd_s_o hcc, e1, va_up_ne _ _ hcc]
    have c6 : CST N6 S rdy off chg wts hld pg w bg F := hc.fr (fun c hcc => low c (by omega))
    have f6 : frC M N6 := fun c x y => low c (by omega)
    have bad : cDif rdy off bg (difS (F (10 + s)) (F 0) 4 0) (zN s) k v = 2 → Q 2 N6 := fun e9 => by rw [e9] at h1; exact h1 N6 (by decide) c6 f6
    refine ⟨fun q => Or.inr ⟨rfl, bad ?_⟩, fun q => ⟨fun q2 => Or.inr ⟨rfl, bad ?_⟩, fun q2 => ⟨fun q3 => Or.inr ⟨rfl, bad ?_⟩, fun q3 => ?_⟩⟩⟩
    · have : pickI (difS (F (10 + s)) (F 0) 4 0) k = none := by unfold pickI; rw [if_pos q]
      rw [c5, this]
      split
      · rfl
      · split
        · rfl
        · rfl
    · rw [c5, decide_eq_true q2]; rfl
    · rw [c5, decide_eq_true q3]; split <;> rfl
    · obtain ⟨K, hK, rfl⟩ := zN_of q
      have ep : pickI (difS (F (10 + s)) (F 0) 4 0) (zN K) = (difS (F (10 + s)) (F 0) 4 0)[K]? := by unfold pickI; rw [if_neg q, zN_nat hK]
      rw [decide_eq_false q2, decide_eq_false q3, ep] at c5
      rw [zN_nat (by omega), show 83 + 11 * s + 1 = 84 + 11 * s by omega]
      have z2 : N6 n 2 = zN K := by rw [n6, sd_s_self]
      have z3 : N6 n 3 = 0 := by rw [n6, sd_s_ne (by omega), n5, sd_s_ne (by omega), n4, sd_s_ne (by omega), n3, sd_s_ne (by omega), n2, sd_s_ne (by omega), n1, sd_s_self]
      have h6 : ∀ l, l < 4 → (F (10 + s) l).length ≤ 6 ∧ (F 0 l).length ≤ 6 := fun l hl => ⟨(hk.2.2.2.2.1 (10 + s) (by omega) l hl).2.1, (hk.2.2.2.2.1 0 (by omega) l hl).2.1⟩
      refine p_isThere hK (by omega) (by omega) (c6.ca hs) (c6.2.2.1 0 (by omega) (by omega)) (hk.s (by omega)) (hk.s (by omega)) h6 z2 z3 (fun M7 en o7 => ⟨fun x => absurd rfl x, fun _ => Or.inr ⟨rfl, ?_⟩⟩) (fun ww M7 en o7 w4 w5 w6 w7 => ⟨fun _ => ?_, fun x => absurd x (by decide)⟩)
      · rw [en] at c5
        have c5 : cDif rdy off bg (difS (F (10 + s)) (F 0) 4 0) (zN s) (zN K) v = 2 := c5
        rw [c5] at h1
        exact h1 M7 (by decide) (c6.fr (fun c hcc => o7 c (by omega))) (f6.tr (fun c x y => o7 c (by omega)))
      · rw [en] at c5
        have c5 : cDif rdy off bg (difS (F (10 + s)) (F 0) 4 0) (zN s) (zN K) v = 0 := c5
        have fin : ∀ r : Int32, r = fldD ww v → ∀ M2 : sdM, M2 = sd_s M7 134 0 r → Q 0 M2 := by
          intro r er M2 e2
          subst e2
          refine h0 _ c5 (c6.fr (fun c hcc => o7 c (by omega))).o134 ((f6.tr (fun c x y => o7 c (by omega))).s (by omega)) ?_
          rw [sd_s_self, er]; unfold ansD; rw [ep, en]
        refine ⟨fun v0 => fin _ ?_, fun v0 => ⟨fun v1 => fin _ ?_, fun v1 => ⟨fun v2 => fin _ ?_, fun v2 => fin _ ?_⟩⟩⟩
        · rw [w4]; unfold fldD; rw [if_pos v0]
        · rw [w5]; unfold fldD; rw [if_neg v0, if_pos v1]
        · rw [w6]; unfold fldD; rw [if_neg v0, if_neg v1, if_pos v2]
        · rw [w7]; unfold fldD; rw [if_neg v0, if_neg v1, if_neg v2]
theorem FndK.ms {S : Sch} {rdy off : Bool} {chg wts : Nat} {hld : Int32} {pg : Nat} {w : Flt} {bg : Nat → Bool} {F : Nat → ASet} {M M' : sdM} {ww : Flt} (h : FndK M M' ww) (hm : MST M S rdy off chg wts hld pg w bg F) : MST M' S rdy off chg wts hld pg w bg F := hm.sl (fun c a b => h.1 c (by omega)) (fun j a b => h.2.1 j b)
theorem FndK.fm {M M' : sdM} {ww : Flt} (h : FndK M M' ww) : frM M M' := fun c hc => h.1 c (by omega)
theorem O_diff {S : Sch} {rdy off : Bool} {chg wts : Nat} {hld : Int32} {pg : Nat} {w : Flt} {bg : Nat → Bool} {F : Nat → ASet} {M : sdM} {a k v : Int32} {t : Nat} (hm : MST M S rdy off chg wts hld pg w bg F) (hk : OKS t S chg wts pg F) {Q : Int32 → sdM → Prop} (h1 : ∀ M' b, cDif rdy off bg (difOf F a) a k v ≠ 0 → MST M' S rdy off chg wts hld pg w bg F → frM M M' → M' 116 0 = cDif rdy off bg (difOf F a) a k v → Q b M') (h0 : ∀ M', cDif rdy off bg (difOf F a) a k v = 0 → MST M' S rdy off chg wts hld pg w bg F → frM M M' → M' 116 0 = 0 → Q (ansD (difOf F a) k v) M') : w_O_diff M a k v Q := by
  obtain ⟨g1, g2, g3, g4, g5, g6, g7, g8, g9⟩ := hm.2.1
  refine m_needs g1 g2 g9 (fun M5 e5 => ?_)
  have m5 : MST M5 S rdy off chg wts hld pg w bg F := by rw [e5]; exact hm.thr
  have f5 : frM M M5 := by rw [e5]; exact (frM.rf M).s (by omega)
  have t5 : M5 116 0 = cNeeds rdy off bg a := by rw [e5, sd_s_self]
  rw [t5]
  rcases cNeeds_cases rdy off bg a with e | e | e
  · obtain ⟨s, hs, rfl, -, -, -⟩ := cNeeds_0 e
    have eD : difOf F (zN s) = difS (F (10 + s)) (F 0) 4 0 := by unfold difOf; rw [zN_nat (by omega)]
    rw [eD] at h0 h1
    have c5 : cDif rdy off bg (difS (F (10 + s)) (F 0) 4 0) (zN s) k v = if decide (v < 0) then 2 else if decide (3 < v) then 2 else if (pickI (difS (F (10 + s)) (F 0) 4 0) k).isSome then 0 else 2 := by unfold cDif; rw [if_pos e]
    rw [e]
    have bad : ∀ M6, MST M6 S rdy off chg wts hld pg w bg F → frM M M6 → cDif rdy off bg (difS (F (10 + s)) (F 0) 4 0) (zN s) k v = 2 → k_O_diff_42 Q M6 v 2 := by
      intro M6 m6 f6 e2 M7 e7
      subst e7
      rw [sd_s_self]
      rw [e2] at h1
      exact ⟨fun h => absurd h (by decide), fun _ => h1 _ _ (by decide) m6.thr (f6.s (by omega)) (sd_s_self _ _ _ _)⟩
    refine ⟨fun _ => ⟨fun q => bad M5 m5 f5 ?_, fun q => ⟨fun q2 => bad M5 m5 f5 ?_, fun q2 => ?_⟩⟩, fun h => absurd (by decide) h⟩
    · rw [c5, decide_eq_true q]; rfl
    · rw [c5, decide_eq_true q2]; split <;> rfl
    · rw [decide_eq_false q, decide_eq_false q2] at c5
      refine m_isDifference hs (m5.2.2 (10 + s) (by omega)) (m5.2.2 0 (by omega)) (hk.s (by omega)) (hk.s (by omega)) (fun en => ⟨fun x => absurd rfl x, fun _ => bad M5 m5 f5 ?_⟩) (fun ww M6 en hF => ⟨fun _ M7 e7 => ?_, fun x => absurd x (by decide)⟩)
      · rw [c5, en]; rfl
      · have e0 : cDif rdy off bg (difS (F (10 + s)) (F 0) 4 0) (zN s) k v = 0 := by rw [c5, en]; rfl
        have m6 := hF.ms m5
        have f6 := f5.tr hF.fm
        have m7 : MST M7 S rdy off chg wts hld pg w bg F := by rw [e7]; exact m6.thr
        have f7 : frM M M7 := by rw [e7]; exact f6.s (by omega)
        have t7 : M7 116 0 = 0 := by rw [e7, sd_s_self]
        have hq := h0 M7 e0 m7 f7 t7
        have ea : ansD (difS (F (10 + s)) (F 0) 4 0) k v = fldD ww v := by unfold ansD; rw [en]
        rw [ea] at hq
        unfold fldD at hq
        rw [t7]
        refine ⟨fun _ => ⟨fun v0 => ⟨fun v1 => ⟨fun v2 => ?_, fun v2 => ?_⟩, fun v1 => ?_⟩, fun v0 => ?_⟩, fun h => absurd (by decide) h⟩
        · rw [if_neg v0, if_neg v1, if_neg v2] at hq
          show Q (M7 116 34) M7
          rw [e7, sd_s_ne (by omega), hF.2.2.2.2.2, ← e7]; exact hq
        · rw [if_neg v0, if_neg v1, if_pos v2] at hq
          show Q (M7 116 33) M7
          rw [e7, sd_s_ne (by omega), hF.2.2.2.2.1, ← e7]; exact hq
        · rw [if_neg v0, if_pos v1] at hq
          show Q (M7 116 32) M7
          rw [e7, sd_s_ne (by omega), hF.2.2.2.1, ← e7]; exact hq
        · rw [if_pos v0] at hq
          show Q (M7 116 31) M7
          rw [e7, sd_s_ne (by omega), hF.2.2.1, ← e7]; exact hq
  all_goals
    have ec : cDif rdy off bg (difOf F a) a k v = cNeeds rdy off bg a := by unfold cDif; rw [if_neg (by rw [e]; decide)]
    rw [ec, e] at h1
    rw [e] at t5 ⊢
    exact ⟨fun h => absurd h (by decide), fun _ => h1 M5 _ (by decide) m5 f5 t5⟩
theorem J_diff {t n : Nat} (hn : 135 ≤ n) {M : sdM} {a k v : Int32} (h : INV t M) : w_L_diff n M a k v (fun c M1 => w_O_diff M1 a k v (fun b M2 => goodJ (t + 1) c b M2)) := by
  obtain ⟨S, rdy, off, chg, wts, hld, pg, w, bg, F, hc, hm, hk⟩ := h
  exact joinJ (fun Q a b => C_diff hc hk hn a b) (fun M1 d Q a b => O_diff d hk a b) hm (fun _ _ d f => d.fc f) (fun _ _ c f => c.fm f) (fun _ _ c f => c.fm f) (fun M' c d => ⟨_, _, _, _, _, _, _, _, _, _, c, d, hk.mono⟩) (fun M' c d => ⟨_, _, _, _, _, _, _, _, _, _, c, d, hk.mono⟩)
def cCom (rdy off : Bool) (bg : Nat → Bool) (a k : Int32) : Int32 := if cNeeds rdy off bg a = 0 then (if decide (k < 0) || decide (1000 < k) then 3 else 0) else cNeeds rdy off bg a
def lckC (wts : Nat) (hld a : Int32) : Bool := decide (0 < wts) || (!decide (hld = -1) && !decide (hld = a))
def comM (F : Nat → ASet) (a : Int32) : Option Flt := mrgS (F (10 + a.toNatClampNeg)) (F (13 + a.toNatClampNeg)) (F 0) 4 0
def comA (F : Nat → ASet) (a : Int32) : ASet := mrgA (F (10 + a.toNatClampNeg)) (F (13 + a.toNatClampNeg)) (F 0)
theorem CST.hi {S : Sch} {rdy off : Bool} {chg wts : Nat} {hld : Int32} {pg : Nat} {w : Flt} {bg : Nat → Bool} {F : Nat → ASet} {M M' : sdM} (hc : CST M S rdy off chg wts hld pg w bg F) (he : ∀ c, c < 135 → M' c = M c) : CST M' S rdy off chg wts hld pg w bg F := hc.fr (fun c h => he c (by omega))
theorem C_commit {S : Sch} {rdy off : Bool} {chg wts : Nat} {hld : Int32} {pg : Nat} {w : Flt} {bg : Nat → Bool} {F : Nat → ASet} {M : sdM} {n : Nat} {a k : Int32} {t : Nat} (hc : CST M S rdy off chg wts hld pg w bg F) (hk : OKS t S chg wts pg F) (ht : t ≤ 1000) (hn : 135 ≤ n) {Q : Int32 → sdM → Prop} (h1 : ∀ M', cCom rdy off bg a k ≠ 0 → CST M' S rdy off chg wts hld pg w bg F → frC M M' → Q (cCom rdy off bg a k) M')
    (hL : ∀ M', cCom rdy off bg a k = 0 → lckC wts hld a = true → CST M' S rdy off chg wts hld pg w bg F → frC M M' → M' 134 0 = 3 → Q 0 M')
    (hM : ∀ M' w1, cCom rdy off bg a k = 0 → lckC wts hld a = false → comM F a = some w1 → CST M' S rdy off chg wts hld pg w1 bg F → frC M M' → M' 134 0 = 1 → Q 0 M')
    (hI : ∀ M' w2, cCom rdy off bg a k = 0 → lckC wts hld a = false → comM F a = none → faultS S (comA F a) = some w2 → CST M' S rdy off chg wts hld pg w2 bg F → frC M M' → M' 134 0 = 2 → Q 0 M')
    (hS : ∀ M', cCom rdy off bg a k = 0 → lckC wts hld a = false → comM F a = none → faultS S (comA F a) = none → sameS (F 0) (comA F a) = true → CST M' S rdy off chg wts hld pg w bg (upSes F a.toNatClampNeg (comA F a) (comA F a)) → frC M M' → M' 134 0 = 0 → Q 0 M')
    (hD : ∀ M', cCom rdy off bg a k = 0 → lckC wts hld a = false → comM F a = none → faultS S (comA F a) = none → sameS (F 0) (comA F a) = false → CST M' S rdy off (chg + 1) k.toNatClampNeg hld pg w bg (upSes (shiftF F (comA F a)) a.toNatClampNeg (comA F a) (comA F a)) → frC M M' → M' 134 0 = 0 → Q 0 M') : w_L_commit n M a k Q := by
  have hch := hk.2.1
  have hw := hk.2.2.1
  obtain ⟨g1, g2, g3, g4, g5, g6, g7, g8⟩ := hc.2.1
  have bad : ∀ c : Int32, cCom rdy off bg a k = c → c ≠ 0 → Q c M := fun c e hne => by
    rw [e] at h1; exact h1 M hne hc (frC.rf _)
  refine p_needs g1 g2 g8 (fun e => Or.inl ⟨rfl, bad 1 ?_ (by decide)⟩) (fun e => Or.inr (Or.inl ⟨rfl, bad 2 ?_ (by decide)⟩)) (fun e s hs ea hb => ?_)
  · unfold cCom; rw [e]; rfl
  · unfold cCom; rw [e]; rfl
  · subst ea
    have eM : comM F (zN s) = mrgS (F (10 + s)) (F (13 + s)) (F 0) 4 0 := by unfold comM; rw [zN_nat (by omega)]
    have eA : comA F (zN s) = mrgA (F (10 + s)) (F (13 + s)) (F 0) := by unfold comA; rw [zN_nat (by omega)]
    rw [eM] at hM hI hS hD
    rw [eA] at hI hS hD
    rw [zN_nat (by omega)] at hS hD
    have c5 : cCom rdy off bg (zN s) k = if decide (k < 0) || decide (1000 < k) then 3 else 0 := by unfold cCom; rw [if_pos e]
    refine ⟨fun q => Or.inr (Or.inr ⟨rfl, bad 3 ?_ (by decide)⟩), fun q => ⟨fun q2 => ?_, fun q2 => Or.inr (Or.inr ⟨rfl, bad 3 ?_ (by decide)⟩)⟩⟩
    · rw [c5, decide_eq_true q]; rfl
    · have e0 : cCom rdy off bg (zN s) k = 0 := by rw [c5, decide_eq_false q, decide_eq_false (fun x => i_nle.mpr x q2)]; rfl
      have lock : lckC wts hld (zN s) = true → ∀ M2 : sdM, M2 = sd_s M 134 0 3 → Q 0 M2 := by
        intro hl M2 e2
        subst e2
        exact hL _ e0 hl hc.o134 ((frC.rf M).s (by omega)) (sd_s_self _ _ _ _)
      have run : lckC wts hld (zN s) = false → k_D_commit_60 n (fun r M1 => ∀ M2 : sdM, M2 = sd_s M1 134 0 r → Q 0 M2) (fun E M1 => (E = "java/lang/IllegalStateException" ∧ Q 1 M1) ∨ (E = "java/lang/IndexOutOfBoundsException" ∧ Q 2 M1) ∨ (E = "java/lang/IllegalArgumentException" ∧ Q 3 M1)) M (zN s) k := by
        intro hl M1 e1
        have c1 : CST M1 S rdy off chg wts hld pg w bg F := hc.hi (fun c h => by rw [e1, va_up_ne _ _ (by omega)])
        have f1 : frC M M1 := fun c x y => by rw [e1, va_up_ne _ _ (by omega)]
        have oF : ∀ j, j < 16 → okS (F j) := fun j hj => hk.s hj
        have h6 : ∀ l, l < 4 → (F (10 + s) l).length ≤ 6 ∧ (F 0 l).length ≤ 6 := fun l hl => ⟨(hk.2.2.2.2.1 (10 + s) (by omega) l hl).2.1, (hk.2.2.2.2.1 0 (by omega) l hl).2.1⟩
        have rb : RC M1 (89 + 11 * s) (F (13 + s)) := by
          have hr := c1.2.2.1 (13 + s) (by omega) (by omega)
          rw [cellOf_ba chg hs] at hr; exact hr
        have s35 : setC 35 := Or.inr (Or.inr (Or.inl rfl))
        refine ⟨(zN_in (by omega)).mpr hs, ?_⟩
        rw [zN_nat (by omega), show 83 + 11 * s + 1 = 84 + 11 * s by omega, show 83 + 11 * s + 6 = 89 + 11 * s by omega]
        refine p_succeeds (s35.dis (setC_ca hs) (by omega)) (s35.dis (setC_ba hs) (by omega)) (by omega) (c1.ca hs) rb (c1.2.2.1 0 (by omega) (by omega)) (oF _ (by omega)) (oF _ (by omega)) (oF _ (by omega)) h6 (c1.gok s35) (fun w1 M2 em o2 gk2 => ⟨fun x => absurd rfl x, fun _ M3 e3 => ?_⟩) (fun M2 em o2 r2 ok2 gk2 => ⟨fun _ M3 e3 => ?_, fun x => absurd x (by decide)⟩)
        · subst e3
          refine hM _ w1 e0 hl em ((c1.out o2 gk2).c42).o134 ?_ (by rw [sd_s_self])
          refine ((f1.tr (o2.fc s35)).tr (fun c x y => ?_)).s (by omega)
          unfold noted; rw [sd_s_o (by omega), sd_s_o (by omega), sd_s_o (by omega), sd_s_o (by omega)]
        · have c2 := c1.out o2 gk2
          have f2 := f1.tr (o2.fc s35)
          have lo3 : ∀ c, c < 135 → M3 c = M2 c := fun c h => by rw [e3, va_up_ne _ _ (by omega)]
          have c3 : CST M3 S rdy off chg wts hld pg w bg F := c2.hi lo3
          have f3 : frC M M3 := f2.tr (fun c x y => lo3 c (by omega))
          have r3 : RC M3 35 (mrgA (F (10 + s)) (F (13 + s)) (F 0)) := r2.fr (fun c x y => lo3 c (by omega))
          refine p_passes c3.1 hk.1 r3 ok2 (fun ef => ⟨fun _ => ?_, fun x => absurd x (by decide)⟩) (fun w2 ef => ⟨fun x => absurd rfl x, fun _ M4 e4 => ?_⟩)
          · refine C_change c3 (by omega) (oF 0 (by omega)) s35 r3 ok2 (by omega) (by omega) (fun es => ⟨fun _ => ?_, fun x => absurd rfl x⟩) (fun es M4 c4 r4 f4 => ⟨fun x => absurd x (by decide), fun _ M5 e5 => ?_⟩)
            · refine ⟨(zN_in (by omega)).mpr hs, ?_⟩
              rw [zN_nat (by omega)]
              refine C_take c3 hs s35 s35 (by omega) (by omega) (by omega) (by omega) r3 r3 ok2 ok2 (fun M6 c6 f6 M7 e7 => ?_)
              subst e7
              exact hS _ e0 hl em ef es c6.o134 ((f3.tr f6).s (by omega)) (sd_s_self _ _ _ _)
            · obtain ⟨u1, u2, u3, u4, u5, u6, u7, u8⟩ := c4.2.1
              have hk' : k = zN k.toNatClampNeg := by
                obtain ⟨m, hm, rfl⟩ := zN_of q
                rw [zN_nat hm]
              have c5' : CST M5 S rdy off (chg + 1) k.toNatClampNeg hld pg w bg (shiftF F (mrgA (F (10 + s)) (F (13 + s)) (F 0))) := c4.c0 (fun c x _ => by rw [e5, sd_s_o x]) (by rw [e5, sd_s_ne (by omega)]) (by rw [e5, sd_s_self]; exact hk') (by rw [e5, sd_s_ne (by omega)]; exact u5) (by rw [e5, sd_s_ne (by omega)]; exact u2) (by rw [e5, sd_s_ne (by omega)]; exact u6)
              have f5 : frC M M5 := by rw [e5]; exact (f3.tr f4).s (by omega)
              have r5 : RC M5 35 (mrgA (F (10 + s)) (F (13 + s)) (F 0)) := r4.fr (fun c x y => by rw [e5, sd_s_o (by omega)])
              refine ⟨(zN_in (by omega)).mpr hs, ?_⟩
              rw [zN_nat (by omega)]
              refine C_take c5' hs s35 s35 (by omega) (by omega) (by omega) (by omega) r5 r5 ok2 ok2 (fun M6 c6 f6 M7 e7 => ?_)
              subst e7
              exact hD _ e0 hl em ef es c6.o134 ((f5.tr f6).s (by omega)) (sd_s_self _ _ _ _)
          · subst e4
            refine hI _ w2 e0 hl em ef (c3.c42).o134 ?_ (by rw [sd_s_self])
            refine (f3.tr (fun c x y => ?_)).s (by omega)
            unfold noted; rw [sd_s_o (by omega), sd_s_o (by omega), sd_s_o (by omega), sd_s_o (by omega)]
      rw [g4, g5]
      refine ⟨fun q3 => lock ?_, fun q3 => ⟨fun q4 => run ?_, fun q4 => ⟨fun q5 => run ?_, fun q5 => lock ?_⟩⟩⟩
      · rw [show (0 : Int32) = zN 0 from rfl, zN_lt (by omega) (by omega)] at q3
        unfold lckC; rw [decide_eq_true q3]; rfl
      all_goals rw [show (0 : Int32) = zN 0 from rfl, zN_lt (by omega) (by omega)] at q3
      · unfold lckC; rw [decide_eq_false q3, decide_eq_true q4]; rfl
      · unfold lckC; rw [decide_eq_false q3, decide_eq_true q5]; simp
      · unfold lckC; rw [decide_eq_false q3, decide_eq_false q4, decide_eq_false q5]; rfl
    · rw [c5, decide_eq_true (i_nle.mp q2)]; simp
theorem m_note {S : Sch} {rdy off : Bool} {chg wts : Nat} {hld : Int32} {pg : Nat} {w : Flt} {bg : Nat → Bool} {F : Nat → ASet} {M : sdM} {Q : sdM → Prop} {f : Int32} {ww : Flt} (hm : MST M S rdy off chg wts hld pg w bg F) (e0 : f = ww.1) (h31 : M 116 31 = ww.2.1) (h32 : M 116 32 = ww.2.2.1) (h33 : M 116 33 = ww.2.2.2) (hq : ∀ M', MST M' S rdy off chg wts hld pg ww bg F → frM M M' → M' 116 0 = M 116 0 → Q M') : w_O_note M f Q := by
  intro M1 e1 M2 e2 M3 e3 M4 e4
  obtain ⟨u1, u2, u3, u4, u5, u6, u7, u8, u9⟩ := hm.2.1
  have sl : ∀ j, j < 27 → M4 116 j = M 116 j := fun j hj => by rw [e4, sd_s_ne (by omega), e3, sd_s_ne (by omega), e2, sd_s_ne (by omega), e1, sd_s_ne (by omega)]
  refine hq M4 (hm.c0 (fun c x y => by rw [e4, sd_s_o (by omega), e3, sd_s_o (by omega), e2, sd_s_o (by omega), e1, sd_s_o (by omega)]) (fun j x y => sl j (by omega)) (by rw [sl 23 (by omega)]; exact u6) (by rw [sl 24 (by omega)]; exact u5) (by rw [sl 25 (by omega)]; exact u2) (by rw [sl 26 (by omega)]; exact u7) ⟨?_, ?_, ?_, ?_⟩) (by rw [e4, e3, e2, e1]; exact ((((frM.rf M).s (by omega)).s (by omega)).s (by omega)).s (by omega)) (sl 0 (by omega))
  · rw [e4, sd_s_ne (by omega), e3, sd_s_ne (by omega), e2, sd_s_ne (by omega), e1, sd_s_self]; exact e0
  · rw [e4, sd_s_ne (by omega), e3, sd_s_ne (by omega), e2, sd_s_self, e1, sd_s_ne (by omega)]; exact h31
  · rw [e4, sd_s_ne (by omega), e3, sd_s_self, e2, sd_s_ne (by omega), e1, sd_s_ne (by omega)]; exact h32
  · rw [e4, sd_s_self, e3, sd_s_ne (by omega), e2, sd_s_ne (by omega), e1, sd_s_ne (by omega)]; exact h33
theorem O_commit {S : Sch} {rdy off : Bool} {chg wts : Nat} {hld : Int32} {pg : Nat} {w : Flt} {bg : Nat → Bool} {F : Nat → ASet} {M : sdM} {a k : Int32} {t : Nat} (hm : MST M S rdy off chg wts hld pg w bg F) (hk : OKS t S chg wts pg F) (ht : t ≤ 1000) {Q : Int32 → sdM → Prop} (h1 : ∀ M' b, cCom rdy off bg a k ≠ 0 → MST M' S rdy off chg wts hld pg w bg F → frM M M' → M' 116 0 = cCom rdy off bg a k → Q b M')
    (hL : ∀ M', cCom rdy off bg a k = 0 → lckC wts hld a = true → MST M' S rdy off chg wts hld pg w bg F → frM M M' → M' 116 0 = 0 → Q 3 M')
    (hM : ∀ M' w1, cCom rdy off bg a k = 0 → lckC wts hld a = false → comM F a = some w1 → MST M' S rdy off chg wts hld pg w1 bg F → frM M M' → M' 116 0 = 0 → Q 1 M')
    (hI : ∀ M' w2, cCom rdy off bg a k = 0 → lckC wts hld a = false → comM F a = none → faultS S (comA F a) = some w2 → MST M' S rdy off chg wts hld pg w2 bg F → frM M M' → M' 116 0 = 0 → Q 2 M')
    (hS : ∀ M', cCom rdy off bg a k = 0 → lckC wts hld a = false → comM F a = none → faultS S (comA F a) = none → sameS (F 0) (comA F a) = true → MST M' S rdy off chg wts hld pg w bg (upSes F a.toNatClampNeg (comA F a) (comA F a)) → frM M M' → M' 116 0 = 0 → Q 0 M')
    (hD : ∀ M', cCom rdy off bg a k = 0 → lckC wts hld a = false → comM F a = none → faultS S (comA F a) = none → sameS (F 0) (comA F a) = false → MST M' S rdy off (chg + 1) k.toNatClampNeg hld pg w bg (upSes (shiftF F (comA F a)) a.toNatClampNeg (comA F a) (comA F a)) → frM M M' → M' 116 0 = 0 → Q 0 M') : w_O_commit M a k Q := by
  have hch := hk.2.1
  have hw := hk.2.2.1
  have hF : ∀ j, j < 16 → okS (F j) := fun j hj => hk.s hj
  obtain ⟨g1, g2, g3, g4, g5, g6, g7, g8, g9⟩ := hm.2.1
  refine m_needs g1 g2 g9 (fun M5 e5 => ?_)
  have m5 : MST M5 S rdy off chg wts hld pg w bg F := by rw [e5]; exact hm.thr
  have f5 : frM M M5 := by rw [e5]; exact (frM.rf M).s (by omega)
  have t5 : M5 116 0 = cNeeds rdy off bg a := by rw [e5, sd_s_self]
  have bad : ∀ c : Int32, cCom rdy off bg a k = c → ¬ c ≤ 0 → k_O_commit_36 Q M5 a k c := by
    intro c he hne M6 e6
    subst e6
    rw [sd_s_self]
    rw [he] at h1
    exact ⟨fun h => absurd h hne, fun _ => h1 _ _ (fun h => hne (by rw [h]; decide)) m5.thr (f5.s (by omega)) (sd_s_self _ _ _ _)⟩
  unfold k_O_commit_32
  rw [t5]
  rcases cNeeds_cases rdy off bg a with e | e | e
  · have c5 : cCom rdy off bg a k = if decide (k < 0) || decide (1000 < k) then 3 else 0 := by unfold cCom; rw [if_pos e]
    obtain ⟨s, hs, rfl, -, -, -⟩ := cNeeds_0 e
    have eM : comM F (zN s) = mrgS (F (10 + s)) (F (13 + s)) (F 0) 4 0 := by unfold comM; rw [zN_nat (by omega)]
    have eA : comA F (zN s) = mrgA (F (10 + s)) (F (13 + s)) (F 0) := by unfold comA; rw [zN_nat (by omega)]
    rw [eM] at hM hI hS hD
    rw [eA] at hI hS hD
    rw [zN_nat (by omega)] at hS hD
    rw [e]
    refine ⟨fun q => absurd rfl q, fun _ => ⟨fun q => bad 3 ?_ (by decide), fun q => ⟨fun q2 M6 e6 => ?_, fun q2 => bad 3 ?_ (by decide)⟩⟩⟩
    · rw [c5, decide_eq_true q]; rfl
    · have e0 : cCom rdy off bg (zN s) k = 0 := by rw [c5, decide_eq_false q, decide_eq_false (fun x => i_nle.mpr x q2)]; rfl
      have m6 : MST M6 S rdy off chg wts hld pg w bg F := by rw [e6]; exact m5.thr
      have f6 : frM M M6 := by rw [e6]; exact f5.s (by omega)
      have t6 : M6 116 0 = 0 := by rw [e6, sd_s_self]
      obtain ⟨u1, u2, u3, u4, u5, u6, u7, u8, u9⟩ := m6.2.1
      have hk' : k = zN k.toNatClampNeg := by
        obtain ⟨m, hm, rfl⟩ := zN_of q
        rw [zN_nat hm]
      have run : lckC wts hld (zN s) = false → k_O_commit_73 Q M6 (zN s) k := by
        intro hl
        have w0 : wts = 0 := by
          unfold lckC at hl
          simp at hl
          omega
        have h6 : ∀ l, l < 4 → (F (10 + s) l).length ≤ 6 ∧ (F 0 l).length ≤ 6 := fun l hl => ⟨(hk.2.2.2.2.1 (10 + s) (by omega) l hl).2.1, (hk.2.2.2.2.1 0 (by omega) l hl).2.1⟩
        refine m_merge hs (m6.2.2 _ (by omega)) (m6.2.2 _ (by omega)) (m6.2.2 0 (by omega)) (hF _ (by omega)) (hF _ (by omega)) (hF _ (by omega)) h6 m6.1 hk.1 (fun l hl => (hk.2.2.2.2.1 (10 + s) (by omega) l hl).2.2.1) (fun l hl => (hk.2.2.2.2.1 (13 + s) (by omega) l hl).2.2.1) (fun l hl => (hk.2.2.2.2.1 0 (by omega) l hl).2.2.1) (fun w1 M7 M8 em o7 hFn ew => ⟨fun x => absurd x (by decide), fun _ => ?_⟩) (fun M7 em o7 r7 ok7 => ⟨fun _ => ?_, fun x => absurd rfl x⟩)
        · have m7 := m6.out hF o7
          have m8 := hFn.ms m7
          refine m_note m8 ew.symm hFn.2.2.1 hFn.2.2.2.1 hFn.2.2.2.2 (fun M9 m9 f9 t9 => ?_)
          refine hM M9 w1 e0 hl em m9 (((f6.tr o7.fm).tr hFn.fm).tr f9) ?_
          rw [t9, hFn.2.1 0 (by omega) (by omega) (by omega), o7.1 116 (by omega)]; exact t6
        · have m7 := m6.out hF o7
          have f7 := f6.tr o7.fm
          have t7 : M7 116 0 = 0 := by rw [o7.1 116 (by omega)]; exact t6
          refine m_faultOf (s := 16) m7.1 hk.1 r7 ok7 (by omega) (fun ef => ⟨fun _ => ?_, fun x => absurd (by decide) x⟩) (fun w2 M8 ef hFn => ⟨fun x => ((faultS_kind ef).2 x).elim, fun _ => ?_⟩)
          · have endS : ∀ (M8 : sdM) (chg' wts' : Nat) (F' : Nat → ASet) (v : Int32), v = zN wts' → (∀ j, j < 16 → okS (F' j)) → MST M8 S rdy off chg' wts hld pg w bg F' → RM M8 16 (mrgA (F (10 + s)) (F (13 + s)) (F 0)) → M8 116 0 = 0 → (∀ M9, MST M9 S rdy off chg' wts' hld pg w bg (upSes F' s (mrgA (F (10 + s)) (F (13 + s)) (F 0)) (mrgA (F (10 + s)) (F (13 + s)) (F 0))) → frM M8 M9 → M9 116 0 = 0 → Q 0 M9) → k_O_commit_121 Q M8 (zN s) v := by
              intro M8 chg' wts' F' v ev oF' m8 r8 t8 hq M9 e9
              obtain ⟨v1, v2, v3, v4, v5, v6, v7, v8, v9⟩ := m8.2.1
              have m9 : MST M9 S rdy off chg' wts' hld pg w bg F' := by
                refine m8.c0 (fun c x y => by rw [e9, sd_s_o (by omega)]) (fun j x y => by rw [e9, sd_s_ne (by omega)]) (by rw [e9, sd_s_ne (by omega)]; exact v6) (by rw [e9, sd_s_self]; exact ev) (by rw [e9, sd_s_ne (by omega)]; exact v2) (by rw [e9, sd_s_ne (by omega)]; exact v7) ?_
                rw [e9, sd_s_ne (by omega), sd_s_ne (by omega), sd_s_ne (by omega), sd_s_ne (by omega)]; exact v8
              have r9 : RM M9 16 (mrgA (F (10 + s)) (F (13 + s)) (F 0)) := r8.fr (fun c x y => by rw [e9, sd_s_o (by omega)])
              rw [show (10 : Int32) = zN 10 from rfl, show (13 : Int32) = zN 13 from rfl, zN_add, zN_add]
              refine m_copy (a := 16) (by omega) (by omega) (by omega) r9 ok7 (fun N1 a1 a2 => ?_)
              have n1 := m9.put oF' a1 a2
              have ok1 : ∀ j, j < 16 → okS (va_up F' (10 + s) (mrgA (F (10 + s)) (F (13 + s)) (F 0)) j) := by
                intro j hj
                by_cases e : j = 10 + s
                · subst e; rw [va_up_self]; exact ok7
                · rw [va_up_ne _ _ e]; exact oF' j hj
              refine m_copy (a := 16) (by omega) (by omega) (by omega) (a1.2 16 _ (by omega) (by omega) ok7 r9) ok7 (fun N2 b1 b2 => ?_)
              have n2 := n1.put ok1 b1 b2
              rw [upSes_1 F' hs] at n2
              have f9 : frM M8 M9 := by rw [e9]; exact (frM.rf M8).s (by omega)
              exact hq N2 n2 (f9.tr (a1.fm.tr b1.fm)) (by rw [b1.1 116 (by omega), a1.1 116 (by omega), e9, sd_s_ne (by omega)]; exact t8)
            refine O_become (p := 16) m7 (by omega) hF (Or.inr rfl) r7 ok7 (fun es => ⟨fun _ => ?_, fun x => absurd rfl x⟩) (fun es M8 m8 r8 f8 sl => ⟨fun x => absurd x (by decide), fun _ => ?_⟩)
            · refine endS M7 chg wts F 0 (by rw [w0]; rfl) hF m7 r7 t7 (fun M9 m9 f9 t9 => hS M9 e0 hl em ef es m9 (f7.tr f9) t9)
            · have oS : ∀ j, j < 16 → okS (shiftF F (mrgA (F (10 + s)) (F (13 + s)) (F 0)) j) := by
                intro j hj
                unfold shiftF
                split
                · exact ok7
                · split
                  · exact hF 0 (by omega)
                  · split
                    · exact hF _ (by omega)
                    · exact hF j hj
              exact endS M8 (chg + 1) k.toNatClampNeg _ k hk' oS m8 r8 (by rw [sl 0 (by omega) (by omega)]; exact t7) (fun M9 m9 f9 t9 => hD M9 e0 hl em ef es m9 ((f7.tr f8).tr f9) t9)
          · have m8 := hFn.ms m7
            refine m_note m8 rfl hFn.2.2.1 hFn.2.2.2.1 hFn.2.2.2.2 (fun M9 m9 f9 t9 => ?_)
            refine hI M9 w2 e0 hl em ef m9 ((f7.tr hFn.fm).tr f9) ?_
            rw [t9, hFn.2.1 0 (by omega) (by omega) (by omega)]; exact t7
      have lock : lckC wts hld (zN s) = true → Q 3 M6 := fun hl => hL M6 e0 hl m6 f6 t6
      rw [t6, u5, u6]
      refine ⟨fun _ => ⟨fun q3 => lock ?_, fun q3 => ⟨fun q4 => run ?_, fun q4 => ⟨fun q5 => run ?_, fun q5 => lock ?_⟩⟩⟩, fun h => absurd (by decide) h⟩
      · rw [show (0 : Int32) = zN 0 from rfl, zN_lt (by omega) (by omega)] at q3
        unfold lckC; rw [decide_eq_true q3]; rfl
      all_goals rw [show (0 : Int32) = zN 0 from rfl, zN_lt (by omega) (by omega)] at q3
      · unfold lckC; rw [decide_eq_false q3, decide_eq_true q4]; rfl
      · unfold lckC; rw [decide_eq_false q3, decide_eq_true q5]; simp
      · unfold lckC; rw [decide_eq_false q3, decide_eq_false q4, decide_eq_false q5]; rfl
    · rw [c5, decide_eq_true (i_nle.mp q2)]; simp
  all_goals
    have ec : cCom rdy off bg a k = cNeeds rdy off bg a := by unfold cCom; rw [if_neg (by rw [e]; decide)]
    rw [e] at ec ⊢
    exact ⟨fun _ => bad _ ec (by decide), fun h => absurd h (by decide)⟩
theorem mrgL_ok {X Y Z : List Row} (oX : okL X) (oZ : okL Z) (h6 : X.length ≤ 6 ∧ Z.length ≤ 6) : ∀ (d k : Nat) (acc R : List Row), k + d = 101 → accOK X Z acc k → mrgL X Y Z d k acc = .inr R → accOK X Z R 101 := by
  intro d
  induction d with
  | zero =>
    intro k acc R hk ha h
    have : k = 101 := by omega
    subst this
    rw [mrgL] at h; cases h; exact ha
  | succ d ih =>
    intro k acc R hk ha h
    rw [mrgL] at h
    split at h
    · cases h
    · exact ih _ _ _ (by omega) ha.next h
    · rename_i r hm
      exact ih _ _ _ (by omega) (ha.room oX oZ h6 (by omega) hm).2.2.2 h
theorem mrgA_ok {X Y Z : ASet} {l : Nat} (oX : okL (X l)) (oZ : okL (Z l)) (h6 : (X l).length ≤ 6 ∧ (Z l).length ≤ 6) : okL (mrgA X Y Z l) ∧ (mrgA X Y Z l).length ≤ (X l).length + (Z l).length := by
  unfold mrgA
  split
  · exact ⟨⟨fun _ h => (by cases h), List.Pairwise.nil, by simp⟩, by simp⟩
  · rename_i R h
    have := mrgL_ok oX oZ h6 101 0 [] R rfl ⟨⟨fun _ h => (by cases h), List.Pairwise.nil, by simp⟩, fun _ h => (by cases h), by simp⟩ h
    have b1 := cnt_le (X l) 101
    have b2 := cnt_le (Z l) 101
    exact ⟨this.1, by have := this.2.2; omega⟩
theorem fstN_no {p : Nat → Bool} : ∀ {d f : Nat}, fstN p d f = none → ∀ g, f ≤ g → g < f + d → p g = false := by
  intro d
  induction d with
  | zero => intro f _ g h1 h2; omega
  | succ d ih =>
    intro f h g h1 h2
    rw [fstN] at h
    split at h
    · cases h
    · rename_i hp
      by_cases e : g = f
      · subst e; simpa using hp
      · exact ih h g (by omega) (by omega)
theorem faultS_6 {S : Sch} {A : ASet} (h : faultS S A = none) : ∀ l, l < nlS S → (A l).length ≤ 6 := by
  intro l hl
  unfold faultS at h
  split at h
  · cases h
  · rename_i hf
    have := fstN_no hf l (by omega) (by omega)
    simp at this
    omega
theorem okA_mrg {S : Sch} {X Y Z : ASet} (hX : okA S X) (hZ : okA S Z) (hf : faultS S (mrgA X Y Z) = none) : okA S (mrgA X Y Z) := by
  intro l hl
  obtain ⟨x1, x2, x3, x4⟩ := hX l hl
  obtain ⟨z1, z2, z3, z4⟩ := hZ l hl
  obtain ⟨m1, m2⟩ := mrgA_ok (Y := Y) x1 z1 ⟨x2, z2⟩
  have em : nlS S ≤ l → mrgA X Y Z l = [] := by
    intro h
    rw [x4 h, z4 h] at m2
    simpa using m2
  refine ⟨m1, ?_, mrgA_below x1 z1 x3 z3, em⟩
  by_cases h : l < nlS S
  · exact faultS_6 hf l h
  · rw [em (by omega)]; simp
theorem J_commit {t n : Nat} (ht : t ≤ 1000) (hn : 135 ≤ n) {M : sdM} {a k : Int32} (h : INV t M) : w_L_commit n M a k (fun c M1 => w_O_commit M1 a k (fun b M2 => goodJ (t + 1) c b M2)) := by
  obtain ⟨S, rdy, off, chg, wts, hld, pg, w, bg, F, hc, hm, hk⟩ := h
  have fr1 : ∀ M1 M2, MST M1 S rdy off chg wts hld pg w bg F → frC M1 M2 → MST M2 S rdy off chg wts hld pg w bg F := fun _ _ d f => d.fc f
  have fr2 : ∀ M1 M2, CST M1 S rdy off chg wts hld pg w bg F → frM M1 M2 → CST M2 S rdy off chg wts hld pg w bg F := fun _ _ c f => c.fm f
  by_cases e : cCom rdy off bg a k = 0
  · obtain ⟨s, hs, rfl, -, -, -⟩ : ∃ s, s < 3 ∧ a = zN s ∧ bg s = true ∧ off = false ∧ rdy = true := by
      unfold cCom at e
      split at e
      · rename_i e1; exact cNeeds_0 e1
      · rename_i e1; exact (e1 e).elim
    have hk9 : k.toNatClampNeg ≤ 1000 := by
      unfold cCom at e
      split at e
      · split at e
        · cases e
        · rename_i q
          simp at q
          obtain ⟨m, hm9, rfl⟩ := zN_of (i_nlt.mpr q.1)
          rw [zN_nat hm9]
          exact (zN_le hm9 (by omega)).mp q.2
      · rename_i e1; exact (e1 e).elim
    have hX := hk.2.2.2.2.1 (10 + s) (by omega)
    have hZ := hk.2.2.2.2.1 0 (by omega)
    cases hl : lckC wts hld (zN s) with
    | true =>
      exact joinJ (r := 3) (fun Q a b => C_commit hc hk ht hn a (fun M' x y => b M' x) (fun M' w1 x y => by rw [hl] at y; cases y) (fun M' w1 x y => by rw [hl] at y; cases y) (fun M' x y => by rw [hl] at y; cases y) (fun M' x y => by rw [hl] at y; cases y)) (fun M1 d Q a b => O_commit d hk ht a (fun M' x y => b M' x) (fun M' w1 x y => by rw [hl] at y; cases y) (fun M' w1 x y => by rw [hl] at y; cases y) (fun M' x y => by rw [hl] at y; cases y) (fun M' x y => by rw [hl] at y; cases y)) hm fr1 fr2 fr2 (fun M' c d => ⟨_, _, _, _, _, _, _, _, _, _, c, d, hk.mono⟩) (fun M' c d => ⟨_, _, _, _, _, _, _, _, _, _, c, d, hk.mono⟩)
    | false =>
    have nl : ∀ {P : Prop}, lckC wts hld (zN s) = true → P := fun x => by rw [hl] at x; cases x
    cases hM : comM F (zN s) with
    | some w1 =>
      have nM : ∀ {P : Prop}, comM F (zN s) = none → P := fun x => by rw [hM] at x; cases x
      exact joinJ (r := 1) (fun Q a b => C_commit hc hk ht hn a (fun M' x y => nl y) (fun M' w9 x y z c => b M' x (by rw [hM] at z; cases z; exact c)) (fun M' w9 x y z => nM z) (fun M' x y z => nM z) (fun M' x y z => nM z)) (fun M1 d Q a b => O_commit d hk ht a (fun M' x y => nl y) (fun M' w9 x y z c => b M' x (by rw [hM] at z; cases z; exact c)) (fun M' w9 x y z => nM z) (fun M' x y z => nM z) (fun M' x y z => nM z)) hm fr1 fr2 (fun _ _ c f => c.fm f) (fun M' c d => ⟨_, _, _, _, _, _, _, _, _, _, c, d, hk.mono⟩) (fun M' c d => ⟨_, _, _, _, _, _, _, _, _, _, c, d, hk.mono⟩)
    | none =>
    have nM : ∀ {P : Prop} {w9}, comM F (zN s) = some w9 → P := fun x => by rw [hM] at x; cases x
    cases hf : faultS S (comA F (zN s)) with
    | some w2 =>
      have nf : ∀ {P : Prop}, faultS S (comA F (zN s)) = none → P := fun x => by rw [hf] at x; cases x
      exact joinJ (r := 2) (fun Q a b => C_commit hc hk ht hn a (fun M' x y => nl y) (fun M' w9 x y z => nM z) (fun M' w9 x y z u c => b M' x (by rw [hf] at u; cases u; exact c)) (fun M' x y z u => nf u) (fun M' x y z u => nf u)) (fun M1 d Q a b => O_commit d hk ht a (fun M' x y => nl y) (fun M' w9 x y z => nM z) (fun M' w9 x y z u c => b M' x (by rw [hf] at u; cases u; exact c)) (fun M' x y z u => nf u) (fun M' x y z u => nf u)) hm fr1 fr2 (fun _ _ c f => c.fm f) (fun M' c d => ⟨_, _, _, _, _, _, _, _, _, _, c, d, hk.mono⟩) (fun M' c d => ⟨_, _, _, _, _, _, _, _, _, _, c, d, hk.mono⟩)
    | none =>
    have nf : ∀ {P : Prop} {w9}, faultS S (comA F (zN s)) = some w9 → P := fun x => by rw [hf] at x; cases x
    have hA : okA S (comA F (zN s)) := by
      have eA : comA F (zN s) = mrgA (F (10 + s)) (F (13 + s)) (F 0) := by unfold comA; rw [zN_nat (by omega)]
      rw [eA] at hf ⊢
      exact okA_mrg hX hZ hf
    cases hs9 : sameS (F 0) (comA F (zN s)) with
    | true =>
      exact joinJ (r := 0) (fun Q a b => C_commit hc hk ht hn a (fun M' x y => nl y) (fun M' w9 x y z => nM z) (fun M' w9 x y z u => nf u) (fun M' x y z u v c => b M' x c) (fun M' x y z u v => by rw [hs9] at v; cases v)) (fun M1 d Q a b => O_commit d hk ht a (fun M' x y => nl y) (fun M' w9 x y z => nM z) (fun M' w9 x y z u => nf u) (fun M' x y z u v c => b M' x c) (fun M' x y z u v => by rw [hs9] at v; cases v)) hm fr1 fr2 (fun _ _ c f => c.fm f) (fun M' c d => ⟨_, _, _, _, _, _, _, _, _, _, c, d, hk.mono⟩) (fun M' c d => ⟨_, _, _, _, _, _, _, _, _, _, c, d, by rw [zN_nat (by omega)]; exact (hk.ses hs hA hA).mono⟩)
    | false =>
      exact joinJ (r := 0) (fun Q a b => C_commit hc hk ht hn a (fun M' x y => nl y) (fun M' w9 x y z => nM z) (fun M' w9 x y z u => nf u) (fun M' x y z u v => by rw [hs9] at v; cases v) (fun M' x y z u v c => b M' x c)) (fun M1 d Q a b => O_commit d hk ht a (fun M' x y => nl y) (fun M' w9 x y z => nM z) (fun M' w9 x y z u => nf u) (fun M' x y z u v => by rw [hs9] at v; cases v) (fun M' x y z u v c => b M' x c)) hm fr1 fr2 (fun _ _ c f => c.fm f) (fun M' c d => ⟨_, _, _, _, _, _, _, _, _, _, c, d, hk.mono⟩) (fun M' c d => ⟨_, _, _, _, _, _, _, _, _, _, c, d, by rw [zN_nat (show s < _ by omega)]; exact (hk.shift hA hk9 hs9).ses hs hA hA⟩)
  · exact joinJ' (fun Q a => C_commit hc hk ht hn a (fun M' x => (e x).elim) (fun M' _ x => (e x).elim) (fun M' _ x => (e x).elim) (fun M' x => (e x).elim) (fun M' x => (e x).elim)) (fun M1 d Q a => O_commit d hk ht a (fun M' x => (e x).elim) (fun M' _ x => (e x).elim) (fun M' _ x => (e x).elim) (fun M' x => (e x).elim) (fun M' x => (e x).elim)) e hm hk
def zF : Nat → Int32 := fun _ => 0
def S0 : Sch := (1, fun _ => 0, fun _ => (false, 0, 0, 0, false, 0), 0, fun _ => (0, 0, 0, 0, false))
def A0 : ASet := fun l => if l = 0 then [newR 0] else []
theorem okSch_0 : okSch S0 := ⟨⟨by decide, by decide⟩, fun _ => Nat.zero_le _, fun _ => ⟨show (0 : Nat) < 4 by omega, fun h => by cases h⟩, Nat.zero_le _, fun _ => ⟨show (0 : Nat) < 4 by omega, show (0 : Nat) < 4 by omega, show (0 : Nat) < 4 by omega⟩, fun _ _ _ _ _ => rfl⟩
theorem okA_0 : okA S0 A0 := by
  intro l hl
  unfold A0
  by_cases e : l = 0
  · subst e
    rw [if_pos rfl]
    refine ⟨⟨fun r hr => ?_, List.pairwise_singleton _ _, by simp⟩, by simp, fun r hr f hf hn => ?_, fun h => absurd h (by decide)⟩
    · rw [List.mem_singleton.mp hr]; exact ⟨by simp [newR], by simp [newR], fun f _ => rfl⟩
    · rw [List.mem_singleton.mp hr]; simp [newR]
  · rw [if_neg e]
    exact ⟨⟨fun _ h => (by cases h), List.Pairwise.nil, by simp⟩, by simp, fun r hr => (by cases hr), fun _ => rfl⟩
theorem zstep {M M' : sdM} {k : Nat} (h : ∀ c, 5 ≤ c → c < k → M c = zF) (e : M' = va_up M k (fun _ => 0)) : ∀ c, 5 ≤ c → c < k + 1 → M' c = zF := by
  intro c h1 h2
  by_cases hc : c = k
  · subst hc; rw [e, va_up_self]; rfl
  · rw [e, va_up_ne _ _ hc]; exact h c h1 (by omega)
theorem fstep {M0 M M' : sdM} {k : Nat} (h : ∀ c, c < 5 ∨ 25 ≤ c → M c = M0 c) (e : M' = va_up M k (fun _ => 0)) (hk : 5 ≤ k ∧ k < 25) : ∀ c, c < 5 ∨ 25 ≤ c → M' c = M0 c := by
  intro c h1
  rw [e, va_up_ne _ _ (by omega)]; exact h c h1
theorem i_C {M : sdM} {Q : sdM → Prop} (hq : ∀ M', SCC M' S0 → M' 1 0 = 0 → (∀ c, c = 0 ∨ 25 ≤ c → M' c = M c) → Q M') : w_C_init M Q := by
  refine ⟨Or.inl rfl, fun M1 e1 M2 e2 M3 e3 M4 e4 M5 e5 M6 e6 => ?_⟩
  intro N5 n5 N6 n6 N7 n7 N8 n8 N9 n9 N10 n10 N11 n11 N12 n12 N13 n13 N14 n14 N15 n15 N16 n16 N17 n17 N18 n18 N19 n19 N20 n20 N21 n21 N22 n22 N23 n23 N24 n24
  have z4 : ∀ c, 5 ≤ c → c < 5 → M6 c = zF := fun c h1 h2 => by omega
  have f4 : ∀ c, c < 5 ∨ 25 ≤ c → M6 c = M6 c := fun c _ => rfl
  have z5 := zstep z4 n5
  have f5 := fstep f4 n5 (by omega)
  have z6 := zstep z5 n6
  have f6 := fstep f5 n6 (by omega)
  have z7 := zstep z6 n7
  have f7 := fstep f6 n7 (by omega)
  have z8 := zstep z7 n8
  have f8 := fstep f7 n8 (by omega)
  have z9 := zstep z8 n9
  have f9 := fstep f8 n9 (by omega)
  have z10 := zstep z9 n10
  have f10 := fstep f9 n10 (by omega)
  have z11 := zstep z10 n11
  have f11 := fstep f10 n11 (by omega)
  have z12 := zstep z11 n12
  have f12 := fstep f11 n12 (by omega)
  have z13 := zstep z12 n13
  have f13 := fstep f12 n13 (by omega)
  have z14 := zstep z13 n14
  have f14 := fstep f13 n14 (by omega)
  have z15 := zstep z14 n15
  have f15 := fstep f14 n15 (by omega)
  have z16 := zstep z15 n16
  have f16 := fstep f15 n16 (by omega)
  have z17 := zstep z16 n17
  have f17 := fstep f16 n17 (by omega)
  have z18 := zstep z17 n18
  have f18 := fstep f17 n18 (by omega)
  have z19 := zstep z18 n19
  have f19 := fstep f18 n19 (by omega)
  have z20 := zstep z19 n20
  have f20 := fstep f19 n20 (by omega)
  have z21 := zstep z20 n21
  have f21 := fstep f20 n21 (by omega)
  have z22 := zstep z21 n22
  have f22 := fstep f21 n22 (by omega)
  have z23 := zstep z22 n23
  have f23 := fstep f22 n23 (by omega)
  have z24 := zstep z23 n24
  have f24 := fstep f23 n24 (by omega)
  have m1 : ∀ c, c ≠ 1 → c ≠ 2 → c ≠ 3 → c ≠ 4 → M6 c = M c := fun c h1 h2 h3 h4 => by rw [e6, va_up_ne _ _ h4, e5, sd_s_o h1, e4, va_up_ne _ _ h3, e3, va_up_ne _ _ h2, e2, sd_s_o h1, e1, sd_s_o h1]
  refine hq N24 ⟨?_, fun l hl => ?_, fun i hi => ?_, ?_, fun r hr => ?_⟩ ?_ (fun c hc => ?_)
  · rw [f24 1 (by omega), e6, va_up_ne _ _ (by omega), e5, sd_s_ne (by omega), e4, va_up_ne _ _ (by omega), e3, va_up_ne _ _ (by omega), e2, sd_s_self]; rfl
  · rw [f24 2 (by omega), e6, va_up_ne _ _ (by omega), e5, sd_s_o (by omega), e4, va_up_ne _ _ (by omega), e3, va_up_self]; rfl
  · unfold leafC
    rw [z24 (5 + i) (by omega) (by omega)]
    exact ⟨rfl, rfl, rfl, show (0 : Int32) = bI (Nat.testBit 0 0) by decide, show (0 : Int32) = bI (Nat.testBit 0 1) by decide, rfl, rfl⟩
  · rw [f24 1 (by omega), e6, va_up_ne _ _ (by omega), e5, sd_s_self]; rfl
  · unfold ruleC
    rw [z24 (21 + r) (by omega) (by omega)]
    exact ⟨rfl, rfl, rfl, rfl, rfl⟩
  · rw [f24 1 (by omega), e6, va_up_ne _ _ (by omega), e5, sd_s_ne (by omega), e4, va_up_ne _ _ (by omega), e3, va_up_ne _ _ (by omega), e2, sd_s_ne (by omega), e1, sd_s_self]
  · rw [f24 c (by omega), m1 c (by omega) (by omega) (by omega) (by omega)]
theorem i_S {o : Nat} {M : sdM} {Q : sdM → Prop} (hq : ∀ M', RC M' o A0 → gOK M' o → (∀ c, ¬ (o + 1 ≤ c ∧ c ≤ o + 4) → M' c = M c) → Q M') : w_S_init o M Q := by
  intro M1 e1 M2 e2 M3 e3 M4 e4 M5 e5
  have a1 : ∀ j, j ≠ 0 → M5 (o + 1) j = 0 := fun j hj => by rw [e5, sd_s_ne hj, e4, va_up_ne _ _ (by omega), e3, va_up_ne _ _ (by omega), e2, va_up_ne _ _ (by omega), e1, va_up_self]
  have a0 : M5 (o + 1) 0 = 1 := by rw [e5, sd_s_self]
  have a2 : M5 (o + 2) = fun _ => 0 := by rw [e5, sd_s_o (by omega), e4, va_up_ne _ _ (by omega), e3, va_up_ne _ _ (by omega), e2, va_up_self]
  have a3 : M5 (o + 3) = fun _ => 0 := by rw [e5, sd_s_o (by omega), e4, va_up_ne _ _ (by omega), e3, va_up_self]
  have a4 : M5 (o + 4) = fun _ => 0 := by rw [e5, sd_s_o (by omega), e4, va_up_self]
  refine hq M5 (fun l hl => ?_) (fun j hj => ⟨0, by omega, by rw [a4]; rfl⟩) (fun c hc => by rw [e5, sd_s_o (by omega), e4, va_up_ne _ _ (by omega), e3, va_up_ne _ _ (by omega), e2, va_up_ne _ _ (by omega), e1, va_up_ne _ _ (by omega)])
  by_cases e : l = 0
  · subst e
    refine ⟨a0, fun i r hr => ?_⟩
    have hr : [newR 0][i]? = some r := hr
    have hi : i < 1 := (List.getElem?_eq_some_iff.mp hr).1
    have : i = 0 := by omega
    subst this
    cases hr
    exact ⟨by rw [a2]; rfl, by rw [a4]; rfl, fun f hf => by rw [a3]; rfl⟩
  · have eA : A0 l = [] := by unfold A0; rw [if_neg e]
    rw [eA]
    exact ⟨a1 l e, fun i r hr => by simp at hr⟩
/-- what stands while the class's constructor goes on -/
def IS (M : sdM) (P : Nat → Prop) : Prop := (SCC M S0 ∧ M 1 0 = 0) ∧ ∀ o, setC o → P o → RC M o A0 ∧ gOK M o
theorem IS.fr {M M' : sdM} {P : Nat → Prop} (h : IS M P) (h1 : ∀ c, c < 25 → c ≠ 0 → M' c = M c) (h2 : ∀ c, inSet c → (∃ o, setC o ∧ P o ∧ o + 1 ≤ c ∧ c ≤ o + 4) → M' c = M c) : IS M' P := by
  refine ⟨⟨?_, by rw [h1 1 (by omega) (by omega)]; exact h.1.2⟩, fun o so po => ?_⟩
  · obtain ⟨a1, a2, a3, a4, a5⟩ := h.1.1
    refine ⟨by rw [h1 1 (by omega) (by omega)]; exact a1, fun l hl => by rw [h1 2 (by omega) (by omega)]; exact a2 l hl, fun i hi => ?_, by rw [h1 1 (by omega) (by omega)]; exact a4, fun r hr => ?_⟩
    · unfold leafC; rw [h1 (5 + i) (by omega) (by omega)]; exact a3 i hi
    · unfold ruleC; rw [h1 (21 + r) (by omega) (by omega)]; exact a5 r hr
  · obtain ⟨r, g⟩ := h.2 o so po
    refine ⟨r.fr (fun c x y => h2 c (so.in x y) ⟨o, so, po, x, y⟩), fun j hj => ?_⟩
    obtain ⟨b, hb, e⟩ := g j hj
    exact ⟨b, hb, by rw [h2 _ (so.in (by omega) (by omega)) ⟨o, so, po, by omega, by omega⟩]; exact e⟩
theorem IS.set {o : Nat} {M M1 : sdM} {P : Nat → Prop} {Q : sdM → Prop} (h : IS M P) (so : setC o) (no : ¬ P o) (e : M1 = va_up M o (fun _ => 0)) (hq : ∀ M', IS M' (fun x => P x ∨ x = o) → (∀ c, ¬ (o ≤ c ∧ c ≤ o + 4) → M' c = M c) → Q M') : w_S_init o M1 Q := by
  refine i_S (fun M2 r2 g2 f2 => hq M2 ?_ (fun c hc => by rw [f2 c (by omega), e, va_up_ne _ _ (by omega)]))
  have ho : 25 ≤ o := by rcases so with rfl | rfl | rfl | ⟨j, hj, rfl⟩ | ⟨s, hs, rfl | rfl⟩ <;> omega
  have out : ∀ c, ¬ (o ≤ c ∧ c ≤ o + 4) → M2 c = M c := fun c hc => by rw [f2 c (by omega), e, va_up_ne _ _ (by omega)]
  have old : IS M2 P := h.fr (fun c x y => out c (by omega)) (fun c x ⟨o', so', po', y1, y2⟩ => by
    have hne : o' ≠ o := fun q => no (q ▸ po')
    have := so'.dis so hne
    exact out c (by omega))
  refine ⟨old.1, fun o' so' po' => ?_⟩
  rcases po' with p | p
  · exact old.2 o' so' p
  · subst p; exact ⟨r2, g2⟩
theorem C_init {M : sdM} {Q : sdM → Prop} (hq : ∀ M', CST M' S0 false false 0 0 (-1) 0 (0, 0, 0, 0) (fun _ => false) (fun _ => A0) → Q M') : w_D_init M Q := by
  intro M1 e1
  refine i_C (fun M2 s2 r2 f2 => ?_)
  have i0 : IS M2 (fun _ => False) := ⟨⟨s2, r2⟩, fun _ _ h => h.elim⟩
  intro A1 a1
  refine i0.set (Or.inl rfl) (fun h => h) a1 (fun B1 i1 f1 => ?_)
  intro A2 a2
  refine i1.set (Or.inr (Or.inl rfl)) (by simp) a2 (fun B2 i2 f2 => ?_)
  intro A3 a3
  refine i2.set (Or.inr (Or.inr (Or.inl rfl))) (by simp) a3 (fun B3 i3 f3 => ?_)
  intro C1 c1 C2 c2 C3 c3 T1 t1 T2 t2 T3 t3 T4 t4 D1 d1 D2 d2 D3 d3
  refine ⟨Or.inl rfl, fun D4 d4 D5 d5 => ?_⟩
  have oth : ∀ c, c ≠ 0 → c ≠ 40 → c ≠ 41 → c ≠ 42 → D5 c = B3 c := fun c h0 h40 h41 h42 => by rw [d5, sd_s_o h0, d4, sd_s_o h0, d3, sd_s_o h0, d2, sd_s_o h0, d1, sd_s_o h0, t4, sd_s_o h42, t3, sd_s_o h42, t2, sd_s_o h42, t1, sd_s_o h42, c3, va_up_ne _ _ h42, c2, va_up_ne _ _ h41, c1, va_up_ne _ _ h40]
  have iD := i3.fr (M' := D5) (fun c x y => oth c y (by omega) (by omega) (by omega)) (fun c x ⟨o, so, po, y1, y2⟩ => by
    have po : (o = 25 ∨ o = 30) ∨ o = 35 := by simpa using po
    clear so
    exact oth c (by omega) (by omega) (by omega) (by omega))
  have v7 : D5 0 7 = 0 := by rw [d5, sd_s_ne (by omega), d4, sd_s_ne (by omega), d3, sd_s_ne (by omega), d2, sd_s_ne (by omega), d1, sd_s_self]
  have v8 : D5 0 8 = 0 := by rw [d5, sd_s_ne (by omega), d4, sd_s_ne (by omega), d3, sd_s_ne (by omega), d2, sd_s_self]
  have v9 : D5 0 9 = -1 := by rw [d5, sd_s_ne (by omega), d4, sd_s_ne (by omega), d3, sd_s_self]
  have v10 : D5 0 10 = 0 := by rw [d5, sd_s_ne (by omega), d4, sd_s_self]
  have v11 : D5 0 11 = -1 := by rw [d5, sd_s_self]
  have w42 : D5 42 = T4 42 := by rw [d5, sd_s_o (by omega), d4, sd_s_o (by omega), d3, sd_s_o (by omega), d2, sd_s_o (by omega), d1, sd_s_o (by omega)]
  have w0 : D5 42 0 = 0 := by rw [w42, t4, sd_s_ne (by omega), t3, sd_s_ne (by omega), t2, sd_s_ne (by omega), t1, sd_s_self]
  have w1 : D5 42 1 = 0 := by rw [w42, t4, sd_s_ne (by omega), t3, sd_s_ne (by omega), t2, sd_s_self]
  have w2 : D5 42 2 = 0 := by rw [w42, t4, sd_s_ne (by omega), t3, sd_s_self]
  have w3 : D5 42 3 = 0 := by rw [w42, t4, sd_s_self]
  intro A4 a4
  refine iD.set (Or.inr (Or.inr (Or.inr (Or.inl ⟨0, by omega, rfl⟩)))) (by simp) a4 (fun B4 i4 f4 => ?_)
  intro A5 a5
  refine i4.set (Or.inr (Or.inr (Or.inr (Or.inl ⟨1, by omega, rfl⟩)))) (by simp) a5 (fun B5 i5 f5 => ?_)
  intro A6 a6
  refine i5.set (Or.inr (Or.inr (Or.inr (Or.inl ⟨2, by omega, rfl⟩)))) (by simp) a6 (fun B6 i6 f6 => ?_)
  intro A7 a7
  refine i6.set (Or.inr (Or.inr (Or.inr (Or.inl ⟨3, by omega, rfl⟩)))) (by simp) a7 (fun B7 i7 f7 => ?_)
  intro A8 a8
  refine i7.set (Or.inr (Or.inr (Or.inr (Or.inl ⟨4, by omega, rfl⟩)))) (by simp) a8 (fun B8 i8 f8 => ?_)
  intro A9 a9
  refine i8.set (Or.inr (Or.inr (Or.inr (Or.inl ⟨5, by omega, rfl⟩)))) (by simp) a9 (fun B9 i9 f9 => ?_)
  intro A10 a10
  refine i9.set (Or.inr (Or.inr (Or.inr (Or.inl ⟨6, by omega, rfl⟩)))) (by simp) a10 (fun B10 i10 f10 => ?_)
  intro A11 a11
  refine i10.set (Or.inr (Or.inr (Or.inr (Or.inl ⟨7, by omega, rfl⟩)))) (by simp) a11 (fun B11 i11 f11 => ?_)
  have g0 : ∀ c, c < 43 → B11 c = D5 c := fun c h => by rw [f11 c (by omega), f10 c (by omega), f9 c (by omega), f8 c (by omega), f7 c (by omega), f6 c (by omega), f5 c (by omega), f4 c (by omega)]
  intro H0 h0
  refine ⟨Or.inl rfl, fun K0 k0 => ?_⟩
  have q0 : ∀ c, c ≠ 83 → K0 c = B11 c := fun c h => by rw [k0, sd_s_o h, h0, va_up_ne _ _ h]
  have j0 := i11.fr (M' := K0) (fun c x y => q0 c (by omega)) (fun c x _ => q0 c (by unfold inSet at x; omega))
  have y0 : K0 83 0 = 0 := by rw [k0, sd_s_self]
  intro A12 a12
  refine j0.set (setC_ca (s := 0) (by omega)) (by simp) a12 (fun B12 i12 f12 => ?_)
  intro A13 a13
  refine i12.set (setC_ba (s := 0) (by omega)) (by simp) a13 (fun B13 i13 f13 => ?_)
  have u0 : ∀ c, c < 83 → B13 c = B11 c := fun c h => by rw [f13 c (by omega), f12 c (by omega), q0 c (by omega)]
  have x0 : B13 83 0 = 0 := by rw [f13 83 (by omega), f12 83 (by omega)]; exact y0
  intro H1 h1
  refine ⟨Or.inl rfl, fun K1 k1 => ?_⟩
  have q1 : ∀ c, c ≠ 94 → K1 c = B13 c := fun c h => by rw [k1, sd_s_o h, h1, va_up_ne _ _ h]
  have j1 := i13.fr (M' := K1) (fun c x y => q1 c (by omega)) (fun c x _ => q1 c (by unfold inSet at x; omega))
  have y1 : K1 94 0 = 0 := by rw [k1, sd_s_self]
  intro A14 a14
  refine j1.set (setC_ca (s := 1) (by omega)) (by simp) a14 (fun B14 i14 f14 => ?_)
  intro A15 a15
  refine i14.set (setC_ba (s := 1) (by omega)) (by simp) a15 (fun B15 i15 f15 => ?_)
  have u1 : ∀ c, c < 94 → B15 c = B13 c := fun c h => by rw [f15 c (by omega), f14 c (by omega), q1 c (by omega)]
  have x1 : B15 94 0 = 0 := by rw [f15 94 (by omega), f14 94 (by omega)]; exact y1
  intro H2 h2
  refine ⟨Or.inl rfl, fun K2 k2 => ?_⟩
  have q2 : ∀ c, c ≠ 105 → K2 c = B15 c := fun c h => by rw [k2, sd_s_o h, h2, va_up_ne _ _ h]
  have j2 := i15.fr (M' := K2) (fun c x y => q2 c (by omega)) (fun c x _ => q2 c (by unfold inSet at x; omega))
  have y2 : K2 105 0 = 0 := by rw [k2, sd_s_self]
  intro A16 a16
  refine j2.set (setC_ca (s := 2) (by omega)) (by simp) a16 (fun B16 i16 f16 => ?_)
  intro A17 a17
  refine i16.set (setC_ba (s := 2) (by omega)) (by simp) a17 (fun B17 i17 f17 => ?_)
  have u2 : ∀ c, c < 105 → B17 c = B15 c := fun c h => by rw [f17 c (by omega), f16 c (by omega), q2 c (by omega)]
  have x2 : B17 105 0 = 0 := by rw [f17 105 (by omega), f16 105 (by omega)]; exact y2
  have lo : ∀ c, c < 43 → B17 c = D5 c := fun c h => by rw [u2 c (by omega), u1 c (by omega), u0 c (by omega), g0 c h]
  have all : ∀ o, setC o → RC B17 o A0 ∧ gOK B17 o := fun o so => i17.2 o so (by
    rcases so with rfl | rfl | rfl | ⟨j, hj, rfl⟩ | ⟨s, hs, rfl | rfl⟩ <;> simp <;> omega)
  refine hq B17 ⟨i17.1.1, ⟨i17.1.2, by rw [lo 0 (by omega)]; exact v10, by rw [lo 0 (by omega)]; exact v7, by rw [lo 0 (by omega)]; exact v8, by rw [lo 0 (by omega)]; exact v9, by rw [lo 0 (by omega)]; exact v11, by rw [lo 42 (by omega)]; exact ⟨w0, w1, w2, w3⟩, fun s hs => ?_⟩, ⟨fun j hj hv => (all _ (cellOf_set 0 hj)).1, fun o so => (all o so).2⟩⟩
  have : s = 0 ∨ s = 1 ∨ s = 2 := by omega
  rcases this with rfl | rfl | rfl
  · show B17 83 0 = 0
    rw [u2 83 (by omega), u1 83 (by omega)]; exact x0
  · show B17 94 0 = 0
    rw [u2 94 (by omega)]; exact x1
  · exact x2
theorem nstep {M M' : sdM} {k : Nat} (h : ∀ i, M 129 i = if i % 4 = 0 ∧ i < 4 * k then 1 else 0) (e : M' = sd_s M 129 (4 * k) 1) : ∀ i, M' 129 i = if i % 4 = 0 ∧ i < 4 * (k + 1) then 1 else 0 := by
  intro i
  by_cases hi : i = 4 * k
  · subst hi; rw [e, sd_s_self, if_pos (by omega)]
  · rw [e, sd_s_ne hi, h i]
    by_cases hc : i % 4 = 0 ∧ i < 4 * k
    · rw [if_pos hc, if_pos (by omega)]
    · rw [if_neg hc, if_neg (by omega)]
theorem ostep {M0 M M' : sdM} {k : Nat} (h : ∀ c, c ≠ 129 → M c = M0 c) (e : M' = sd_s M 129 k 1) : ∀ c, c ≠ 129 → M' c = M0 c := fun c hc => by rw [e, sd_s_o hc]; exact h c hc
theorem O_init {M : sdM} {Q : sdM → Prop} (h116 : M 116 = fun _ => 0) (hq : ∀ M', MST M' S0 false false 0 0 (-1) 0 (0, 0, 0, 0) (fun _ => false) (fun _ => A0) → frM M M' → Q M') : w_O_init M Q := by
  intro M1 e1 N117 n117 N118 n118 N119 n119 N120 n120 N121 n121 N122 n122 N123 n123 N124 n124 N125 n125 N126 n126 N127 n127 N128 n128 N129 n129 N130 n130 N131 n131 N132 n132 N133 n133 M2 e2 P0 p0 P1 p1 P2 p2 P3 p3 P4 p4 P5 p5 P6 p6 P7 p7 P8 p8 P9 p9 P10 p10 P11 p11 P12 p12 P13 p13 P14 p14 P15 p15 P16 p16
  have z117 : M2 117 = fun _ => 0 := by rw [e2, sd_s_o (by omega), n133, va_up_ne _ _ (by omega), n132, va_up_ne _ _ (by omega), n131, va_up_ne _ _ (by omega), n130, va_up_ne _ _ (by omega), n129, va_up_ne _ _ (by omega), n128, va_up_ne _ _ (by omega), n127, va_up_ne _ _ (by omega), n126, va_up_ne _ _ (by omega), n125, va_up_ne _ _ (by omega), n124, va_up_ne _ _ (by omega), n123, va_up_ne _ _ (by omega), n122, va_up_ne _ _ (by omega), n121, va_up_ne _ _ (by omega), n120, va_up_ne _ _ (by omega), n119, va_up_ne _ _ (by omega), n118, va_up_ne _ _ (by omega), n117, va_up_self]
  have z118 : M2 118 = fun _ => 0 := by rw [e2, sd_s_o (by omega), n133, va_up_ne _ _ (by omega), n132, va_up_ne _ _ (by omega), n131, va_up_ne _ _ (by omega), n130, va_up_ne _ _ (by omega), n129, va_up_ne _ _ (by omega), n128, va_up_ne _ _ (by omega), n127, va_up_ne _ _ (by omega), n126, va_up_ne _ _ (by omega), n125, va_up_ne _ _ (by omega), n124, va_up_ne _ _ (by omega), n123, va_up_ne _ _ (by omega), n122, va_up_ne _ _ (by omega), n121, va_up_ne _ _ (by omega), n120, va_up_ne _ _ (by omega), n119, va_up_ne _ _ (by omega), n118, va_up_self]
  have z119 : M2 119 = fun _ => 0 := by rw [e2, sd_s_o (by omega), n133, va_up_ne _ _ (by omega), n132, va_up_ne _ _ (by omega), n131, va_up_ne _ _ (by omega), n130, va_up_ne _ _ (by omega), n129, va_up_ne _ _ (by omega), n128, va_up_ne _ _ (by omega), n127, va_up_ne _ _ (by omega), n126, va_up_ne _ _ (by omega), n125, va_up_ne _ _ (by omega), n124, va_up_ne _ _ (by omega), n123, va_up_ne _ _ (by omega), n122, va_up_ne _ _ (by omega), n121, va_up_ne _ _ (by omega), n120, va_up_ne _ _ (by omega), n119, va_up_self]
  have z120 : M2 120 = fun _ => 0 := by rw [e2, sd_s_o (by omega), n133, va_up_ne _ _ (by omega), n132, va_up_ne _ _ (by omega), n131, va_up_ne _ _ (by omega), n130, va_up_ne _ _ (by omega), n129, va_up_ne _ _ (by omega), n128, va_up_ne _ _ (by omega), n127, va_up_ne _ _ (by omega), n126, va_up_ne _ _ (by omega), n125, va_up_ne _ _ (by omega), n124, va_up_ne _ _ (by omega), n123, va_up_ne _ _ (by omega), n122, va_up_ne _ _ (by omega), n121, va_up_ne _ _ (by omega), n120, va_up_self]
  have z121 : M2 121 = fun _ => 0 := by rw [e2, sd_s_o (by omega), n133, va_up_ne _ _ (by omega), n132, va_up_ne _ _ (by omega), n131, va_up_ne _ _ (by omega), n130, va_up_ne _ _ (by omega), n129, va_up_ne _ _ (by omega), n128, va_up_ne _ _ (by omega), n127, va_up_ne _ _ (by omega), n126, va_up_ne _ _ (by omega), n125, va_up_ne _ _ (by omega), n124, va_up_ne _ _ (by omega), n123, va_up_ne _ _ (by omega), n122, va_up_ne _ _ (by omega), n121, va_up_self]
  have z122 : M2 122 = fun _ => 0 := by rw [e2, sd_s_o (by omega), n133, va_up_ne _ _ (by omega), n132, va_up_ne _ _ (by omega), n131, va_up_ne _ _ (by omega), n130, va_up_ne _ _ (by omega), n129, va_up_ne _ _ (by omega), n128, va_up_ne _ _ (by omega), n127, va_up_ne _ _ (by omega), n126, va_up_ne _ _ (by omega), n125, va_up_ne _ _ (by omega), n124, va_up_ne _ _ (by omega), n123, va_up_ne _ _ (by omega), n122, va_up_self]
  have z123 : M2 123 = fun _ => 0 := by rw [e2, sd_s_o (by omega), n133, va_up_ne _ _ (by omega), n132, va_up_ne _ _ (by omega), n131, va_up_ne _ _ (by omega), n130, va_up_ne _ _ (by omega), n129, va_up_ne _ _ (by omega), n128, va_up_ne _ _ (by omega), n127, va_up_ne _ _ (by omega), n126, va_up_ne _ _ (by omega), n125, va_up_ne _ _ (by omega), n124, va_up_ne _ _ (by omega), n123, va_up_self]
  have z124 : M2 124 = fun _ => 0 := by rw [e2, sd_s_o (by omega), n133, va_up_ne _ _ (by omega), n132, va_up_ne _ _ (by omega), n131, va_up_ne _ _ (by omega), n130, va_up_ne _ _ (by omega), n129, va_up_ne _ _ (by omega), n128, va_up_ne _ _ (by omega), n127, va_up_ne _ _ (by omega), n126, va_up_ne _ _ (by omega), n125, va_up_ne _ _ (by omega), n124, va_up_self]
  have z125 : M2 125 = fun _ => 0 := by rw [e2, sd_s_o (by omega), n133, va_up_ne _ _ (by omega), n132, va_up_ne _ _ (by omega), n131, va_up_ne _ _ (by omega), n130, va_up_ne _ _ (by omega), n129, va_up_ne _ _ (by omega), n128, va_up_ne _ _ (by omega), n127, va_up_ne _ _ (by omega), n126, va_up_ne _ _ (by omega), n125, va_up_self]
  have z126 : M2 126 = fun _ => 0 := by rw [e2, sd_s_o (by omega), n133, va_up_ne _ _ (by omega), n132, va_up_ne _ _ (by omega), n131, va_up_ne _ _ (by omega), n130, va_up_ne _ _ (by omega), n129, va_up_ne _ _ (by omega), n128, va_up_ne _ _ (by omega), n127, va_up_ne _ _ (by omega), n126, va_up_self]
  have z127 : M2 127 = fun _ => 0 := by rw [e2, sd_s_o (by omega), n133, va_up_ne _ _ (by omega), n132, va_up_ne _ _ (by omega), n131, va_up_ne _ _ (by omega), n130, va_up_ne _ _ (by omega), n129, va_up_ne _ _ (by omega), n128, va_up_ne _ _ (by omega), n127, va_up_self]
  have z128 : M2 128 = fun _ => 0 := by rw [e2, sd_s_o (by omega), n133, va_up_ne _ _ (by omega), n132, va_up_ne _ _ (by omega), n131, va_up_ne _ _ (by omega), n130, va_up_ne _ _ (by omega), n129, va_up_ne _ _ (by omega), n128, va_up_self]
  have z129 : M2 129 = fun _ => 0 := by rw [e2, sd_s_o (by omega), n133, va_up_ne _ _ (by omega), n132, va_up_ne _ _ (by omega), n131, va_up_ne _ _ (by omega), n130, va_up_ne _ _ (by omega), n129, va_up_self]
  have z130 : M2 130 = fun _ => 0 := by rw [e2, sd_s_o (by omega), n133, va_up_ne _ _ (by omega), n132, va_up_ne _ _ (by omega), n131, va_up_ne _ _ (by omega), n130, va_up_self]
  have z131 : M2 131 = fun _ => 0 := by rw [e2, sd_s_o (by omega), n133, va_up_ne _ _ (by omega), n132, va_up_ne _ _ (by omega), n131, va_up_self]
  have z132 : M2 132 = fun _ => 0 := by rw [e2, sd_s_o (by omega), n133, va_up_ne _ _ (by omega), n132, va_up_self]
  have z133 : M2 133 = fun _ => 0 := by rw [e2, sd_s_o (by omega), n133, va_up_self]
  have z116 : M2 116 = sd_s (sd_s M 116 2 1) 116 23 (-1) 116 := by
    have : N133 116 = M1 116 := by rw [n133, va_up_ne _ _ (by omega), n132, va_up_ne _ _ (by omega), n131, va_up_ne _ _ (by omega), n130, va_up_ne _ _ (by omega), n129, va_up_ne _ _ (by omega), n128, va_up_ne _ _ (by omega), n127, va_up_ne _ _ (by omega), n126, va_up_ne _ _ (by omega), n125, va_up_ne _ _ (by omega), n124, va_up_ne _ _ (by omega), n123, va_up_ne _ _ (by omega), n122, va_up_ne _ _ (by omega), n121, va_up_ne _ _ (by omega), n120, va_up_ne _ _ (by omega), n119, va_up_ne _ _ (by omega), n118, va_up_ne _ _ (by omega), n117, va_up_ne _ _ (by omega)]
    rw [e2]; unfold sd_s; rw [va_up_self, va_up_self, this, e1]; unfold sd_s; rfl
  have fr2 : frM M M2 := fun c h => by rw [e2, sd_s_o (by omega), n133, va_up_ne _ _ (by omega), n132, va_up_ne _ _ (by omega), n131, va_up_ne _ _ (by omega), n130, va_up_ne _ _ (by omega), n129, va_up_ne _ _ (by omega), n128, va_up_ne _ _ (by omega), n127, va_up_ne _ _ (by omega), n126, va_up_ne _ _ (by omega), n125, va_up_ne _ _ (by omega), n124, va_up_ne _ _ (by omega), n123, va_up_ne _ _ (by omega), n122, va_up_ne _ _ (by omega), n121, va_up_ne _ _ (by omega), n120, va_up_ne _ _ (by omega), n119, va_up_ne _ _ (by omega), n118, va_up_ne _ _ (by omega), n117, va_up_ne _ _ (by omega), e1, sd_s_o (by omega)]
  have s0 : ∀ i, M2 129 i = if i % 4 = 0 ∧ i < 4 * 0 then 1 else 0 := fun i => by rw [z129, if_neg (by omega)]
  have o0 : ∀ c, c ≠ 129 → M2 c = M2 c := fun c _ => rfl
  have s1 := nstep s0 (k := 0) p0
  have o1 := ostep o0 p0
  have s2 := nstep s1 (k := 1) p1
  have o2 := ostep o1 p1
  have s3 := nstep s2 (k := 2) p2
  have o3 := ostep o2 p2
  have s4 := nstep s3 (k := 3) p3
  have o4 := ostep o3 p3
  have s5 := nstep s4 (k := 4) p4
  have o5 := ostep o4 p4
  have s6 := nstep s5 (k := 5) p5
  have o6 := ostep o5 p5
  have s7 := nstep s6 (k := 6) p6
  have o7 := ostep o6 p6
  have s8 := nstep s7 (k := 7) p7
  have o8 := ostep o7 p7
  have s9 := nstep s8 (k := 8) p8
  have o9 := ostep o8 p8
  have s10 := nstep s9 (k := 9) p9
  have o10 := ostep o9 p9
  have s11 := nstep s10 (k := 10) p10
  have o11 := ostep o10 p10
  have s12 := nstep s11 (k := 11) p11
  have o12 := ostep o11 p11
  have s13 := nstep s12 (k := 12) p12
  have o13 := ostep o12 p12
  have s14 := nstep s13 (k := 13) p13
  have o14 := ostep o13 p13
  have s15 := nstep s14 (k := 14) p14
  have o15 := ostep o14 p14
  have s16 := nstep s15 (k := 15) p15
  have o16 := ostep o15 p15
  have s17 := nstep s16 (k := 16) p16
  have o17 := ostep o16 p16
  have row : ∀ j, j < 17 → RM P16 j A0 := by
    intro j hj l hl
    by_cases e : l = 0
    · subst e
      refine ⟨?_, fun i r hr => ?_⟩
      · rw [s17, if_pos (by omega)]; rfl
      · have hr : [newR 0][i]? = some r := hr
        have hi : i < 1 := (List.getElem?_eq_some_iff.mp hr).1
        have : i = 0 := by omega
        subst this
        cases hr
        exact ⟨by rw [o17 130 (by omega), z130]; rfl, by rw [o17 131 (by omega), z131]; rfl, fun f hf hb => by simp [newR] at hb⟩
    · have eA : A0 l = [] := by unfold A0; rw [if_neg e]
      rw [eA]
      exact ⟨by rw [s17, if_neg (by omega)]; rfl, fun i r hr => by simp at hr⟩
  have y : ∀ i, i ≠ 2 → i ≠ 23 → P16 116 i = 0 := fun i h2 h23 => by rw [o17 116 (by omega), z116, sd_s_ne h23, sd_s_ne h2, h116]
  refine hq P16 ⟨⟨?_, fun l hl => ?_, fun i hi => ?_, y 10 (by omega) (by omega), fun r hr => ?_⟩, ⟨y 1 (by omega) (by omega), y 25 (by omega) (by omega), y 21 (by omega) (by omega), y 20 (by omega) (by omega), y 24 (by omega) (by omega), ?_, y 26 (by omega) (by omega), ⟨y 27 (by omega) (by omega), y 28 (by omega) (by omega), y 29 (by omega) (by omega), y 30 (by omega) (by omega)⟩, fun s hs => ?_⟩, fun j hj => row j (by omega)⟩ (fun c h => by rw [o17 c (by omega)]; exact fr2 c h)
  · rw [o17 116 (by omega), z116, sd_s_ne (by omega), sd_s_self]; rfl
  · rw [o17 117 (by omega), z117]; rfl
  · unfold leafM
    rw [o17 118 (by omega), o17 119 (by omega), o17 120 (by omega), o17 121 (by omega), o17 122 (by omega), o17 123 (by omega), z118, z119, z120, z121, z122, z123]
    exact ⟨rfl, rfl, rfl, rfl, rfl, rfl⟩
  · unfold ruleM
    rw [o17 124 (by omega), o17 125 (by omega), o17 126 (by omega), o17 127 (by omega), o17 128 (by omega), z124, z125, z126, z127, z128]
    exact ⟨rfl, rfl, rfl, rfl, rfl⟩
  · rw [o17 116 (by omega), z116, sd_s_self]
  · rw [o17 133 (by omega), z133]; rfl
theorem INV_0 {M : sdM} (hc : CST M S0 false false 0 0 (-1) 0 (0, 0, 0, 0) (fun _ => false) (fun _ => A0)) (hm : MST M S0 false false 0 0 (-1) 0 (0, 0, 0, 0) (fun _ => false) (fun _ => A0)) : INV 0 M :=
  ⟨_, _, _, _, _, _, _, _, _, _, hc, hm, okSch_0, Nat.le_refl _, by omega, by omega, fun _ _ => okA_0, fun h => by omega⟩
