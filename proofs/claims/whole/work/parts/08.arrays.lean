/-! new arrays -/
section
variable {l : Launch} {E : sdE} {Y : sdY} {D : va_G} {tys : List (ClassId × FieldType)} {b n : Nat} {ad : Nat → Nat} {L : Nat → sdL} {aF : Nat → Nat} {F : sdM → Heap → Prop} {Q : Option Value → sdM → Prop} {X : String → sdM → Prop}
variable {pc : Nat} {loc : List (Nat × Value)} {st : List Value} {M : sdM} {rc rs : Nat}
/-- new int[len], new boolean[len] -/
theorem x_newI {atype : ArrayType} {ty : FieldType} {t0 len : Nat} {cA : ClassId} {x : Int32} (hA : sd_ad b n ad) (hloc : sd_loc n L) (hb1 : ∀ q ∈ loc, sd_bel n q.2) (hb2 : ∀ v ∈ st, sd_bel n v) (d : decode Y.2.1 pc = .ok (.newarray atype, 2)) (hty : newarray.typeOf atype = ty) (hz : ty = .int ∨ ty = .boolean) (harr : Cond.arrayClass (newarray.typeOf atype) ∈ Y.2.2.2.2.1) (ht : tys[t0]? = some (cA, ty)) (hx : ¬ x < 0) (hN : x.toNatClampNeg = len) (hsz : len * componentBytes ty ≤ 536870912) (hR3 : Y.2.2.2.2.2.1.cells = Y.2.2.2.2.2.2.1) (hR4 : Y.2.2.2.2.2.1.slots = Y.2.2.2.2.2.2.2.1)
    (k : ∀ (ad2 : Nat → Nat) (M2 : sdM), sd_ad b (n + 1) ad2 → sd_loc (n + 1) (va_up L n (sd_I cA len)) → sd_up n L (n + 1) (va_up L n (sd_I cA len)) → (∀ k, k < n → ad2 k = ad k) → M2 = va_up M n (fun _ => 0) → sdW l E Y D tys b (n + 1) ad2 (va_up L n (sd_I cA len)) aF F Q X (pc + 2) loc (.ref n :: st) M2 rc rs) : sdW l E Y D tys b n ad L aF F Q X pc loc (.int x :: st) M (rc + 1) (rs + len) := by
  intro p e s m args below meth c H locs ls cells slots hC hK hH hS hl hc hs
  refine va_newa (a0 := (len, .inl (fun _ => 0))) hC.1.1 hC.1.2.1 (hC.1.2.2.2.2 _ harr) hty hK.1 hH.toP hA.toD hS (fun q h => Nat.le_trans hK.2.2.2.2.1 h) (fun cA9 => by rcases hz with rfl | rfl <;> rfl) hx hN hsz (by rw [hR3]; omega) (by rw [hR4]; omega) d (fun q cA9 H1 hK1 hP1 hD1 hS1 => ?_)
  have he : cA9 = cA := by
    have h1 := (hK1.2 tys.length (cA9, ty) (by rw [List.getElem?_append_right (Nat.le_refl _), Nat.sub_self]; rfl)).2
    have h2 := (hK.1.2 t0 (cA, ty) ht).2
    rcases hz with rfl | rfl <;> exact Option.some.inj (h1.symm.trans h2)
  subst he
  obtain ⟨g1, g2, g3, g4, g5⟩ := sd_grow (ly := sd_I cA9 len) (f := fun _ => 0) hloc (fun a f => rfl) rfl hP1 hD1
  have key := k _ _ g2 g3 g4 g5 rfl p e s m args below meth c H1 locs ls (cells + 1) (slots + len) hC hK g1 hS1 (by rw [sd_l_ext g5 hb1]; exact hl) (by omega) (by omega)
  have hst : List.map (sd_v (va_up ad n q)) (.ref n :: st) = .ref q :: st.map (sd_v ad) := by
    rw [List.map_cons, sd_map_ext g5 hb2]
    show Value.ref (va_up ad n q n) :: _ = _
    rw [va_up_self]
  rw [hst] at key
  exact key
end
/-- an array of references that is being filled -/
def sd_P (c : ClassId) (n : Nat) (g : Nat → Option Nat) : sdL := fun ad _ => .inl (c, n, .inr (.inr (.inr (.inr (fun j => (g j).map ad)))))
section
variable {l : Launch} {E : sdE} {Y : sdY} {D : va_G} {tys : List (ClassId × FieldType)} {b n : Nat} {ad : Nat → Nat} {L : Nat → sdL} {aF : Nat → Nat} {F : sdM → Heap → Prop} {Q : Option Value → sdM → Prop} {X : String → sdM → Prop}
variable {pc : Nat} {loc : List (Nat × Value)} {st : List Value} {M : sdM} {rc rs : Nat}
/-- new C[len] -/
theorem x_newQ {C : String} {idx t0 len : Nat} {cA : ClassId} {x : Int32} (hA : sd_ad b n ad) (hloc : sd_loc n L) (hb1 : ∀ q ∈ loc, sd_bel n q.2) (hb2 : ∀ v ∈ st, sd_bel n v) (d : decode Y.2.1 pc = .ok (.anewarray idx, 3)) (h1 : Cond.classLink Y.1 idx C ∈ Y.2.2.2.2.1) (h2 : Cond.arrayOver (.object C) ∈ E.2.1) (ht : tys[t0]? = some (cA, .object C)) (hx : ¬ x < 0) (hN : x.toNatClampNeg = len) (hsz : len * 4 ≤ 536870912) (hR3 : Y.2.2.2.2.2.1.cells = Y.2.2.2.2.2.2.1) (hR4 : Y.2.2.2.2.2.1.slots = Y.2.2.2.2.2.2.2.1)
    (k : ∀ (ad2 : Nat → Nat) (M2 : sdM), sd_ad b (n + 1) ad2 → sd_loc (n + 1) (va_up L n (sd_P cA len (fun _ => none))) → sd_up n L (n + 1) (va_up L n (sd_P cA len (fun _ => none))) → (∀ k, k < n → ad2 k = ad k) → M2 = va_up M n (fun _ => 0) → sdW l E Y D tys b (n + 1) ad2 (va_up L n (sd_P cA len (fun _ => none))) aF F Q X (pc + 3) loc (.ref n :: st) M2 rc rs) : sdW l E Y D tys b n ad L aF F Q X pc loc (.int x :: st) M (rc + 1) (rs + len) := by
  intro p e s m args below meth c H locs ls cells slots hC hK hH hS hl hc hs
  refine va_newq hC.1.1 hC.1.2.1 hC.1.2.2.2.1 (hC.1.2.2.2.2 _ h1) (hK.2.1 _ h2).1 hK.1 hH.toP hA.toD hS (fun q h => Nat.le_trans hK.2.2.2.2.1 h) hx hN hsz (by rw [hR3]; omega) (by rw [hR4]; omega) d (fun q cA9 H1 hK1 hP1 hD1 hS1 => ?_)
  have he : cA9 = cA := by
    obtain ⟨_, _, _, _, _, g4⟩ := (hK1.2 tys.length (cA9, .object C) (by rw [List.getElem?_append_right (Nat.le_refl _), Nat.sub_self]; rfl)).2
    obtain ⟨_, _, _, _, _, g5⟩ := (hK.1.2 t0 (cA, .object C) ht).2
    exact Option.some.inj (g4.symm.trans g5)
  subst he
  obtain ⟨g1, g2, g3, g4, g5⟩ := sd_grow (ly := sd_P cA9 len (fun _ => none)) (f := fun _ => 0) hloc (fun a f => rfl) rfl hP1 hD1
  have key := k _ _ g2 g3 g4 g5 rfl p e s m args below meth c H1 locs ls (cells + 1) (slots + len) hC hK g1 hS1 (by rw [sd_l_ext g5 hb1]; exact hl) (by omega) (by omega)
  have hst : List.map (sd_v (va_up ad n q)) (.ref n :: st) = .ref q :: st.map (sd_v ad) := by
    rw [List.map_cons, sd_map_ext g5 hb2]
    show Value.ref (va_up ad n q n) :: _ = _
    rw [va_up_self]
  rw [hst] at key
  exact key
/-- a reference into such an array -/
theorem x_aast {t u t0 len ci N : Nat} {cA : ClassId} {C : String} {T : u_T} {fs : List (Option (Option Nat))} {g : Nat → Option Nat} {i : Int32} (hA : sd_ad b n ad) (d : decode Y.2.1 pc = .ok (.aastore, 1)) (hn : t < n) (hL : L t = sd_P cA len g) (hn2 : u < n) (hL2 : L u = sd_O ci fs) (hc9 : E.1[ci]? = some (C, T, N)) (ht : tys[t0]? = some (cA, .object C)) (hi : vp_in i len)
    (k : sdW l E Y D tys b n ad (va_up L t (sd_P cA len (va_up g i.toNatClampNeg (some u)))) aF F Q X (pc + 1) loc st M rc rs) : sdW l E Y D tys b n ad L aF F Q X pc loc (.ref u :: .int i :: .ref t :: st) M rc rs := by
  intro p e s m args below meth c H locs ls cells slots hC hK hH hS hl hc hs
  have hG : (sd_G n ad L M)[t]? = some (ad t, .inl (cA, len, .inr (.inr (.inr (.inr (fun j => (g j).map ad)))))) := by rw [sd_G_get hn, hL]; rfl
  have hG2 : (sd_G n ad L M)[u]? = some (ad u, .inr (ci, sd_fv ad (M u) 0 fs)) := by rw [sd_G_get hn2, hL2]; rfl
  refine va_astq (r := (C, T, N)) hC.1.1 hC.1.2.1 hK.1 hH.toP hA.toD hS t t0 u ci hG ht hG2 hc9 hi d (fun H1 locs1 hP1 _ hS1 => ?_)
  have hset : (sd_G n ad L M).set t (ad t, .inl (cA, len, .inr (.inr (.inr (.inr (va_up (fun j => (g j).map ad) i.toNatClampNeg (some (ad u)))))))) = sd_G n ad (va_up L t (sd_P cA len (va_up g i.toNatClampNeg (some u)))) M := by
    apply List.ext_getElem?
    intro q
    by_cases hq : q = t
    · subst hq
      rw [List.getElem?_set_self (by rw [sd_G_len]; exact hn), sd_G_get hn, va_up_self]
      have hf : (va_up (fun j => (g j).map ad) i.toNatClampNeg (some (ad u))) = (fun j => (va_up g i.toNatClampNeg (some u) j).map ad) := by
        funext j
        by_cases hj : j = i.toNatClampNeg
        · subst hj; rw [va_up_self, va_up_self]; rfl
        · rw [va_up_ne _ _ hj, va_up_ne _ _ hj]
      rw [hf]
      rfl
    · rw [List.getElem?_set_ne (Ne.symm hq)]
      by_cases h : q < n
      · rw [sd_G_get h, sd_G_get h, va_up_ne L _ hq]
      · rw [List.getElem?_eq_none (by rw [sd_G_len]; omega), List.getElem?_eq_none (by rw [sd_G_len]; omega)]
  rw [hset] at hP1
  exact k p e s m args below meth c H1 locs1 ls cells slots hC hK (sd_H.ofP hP1) hS1 hl hc hs
end
section
variable {n n2 : Nat} {L L2 : Nat → sdL} {dA : Nat → ClassId}
theorem isI.cg {c : ClassId} {t len : Nat} (h : isI n L c t len) (hn : n ≤ n2) (he : L2 t = L t) : isI n2 L2 c t len := ⟨Nat.lt_of_lt_of_le h.1 hn, he.trans h.2⟩
theorem isS.cg {o : Nat} (h : isS n L dA o) (hn : n ≤ n2) (he : ∀ k, o ≤ k → k ≤ o + 4 → L2 k = L k) : isS n2 L2 dA o :=
  ⟨Nat.lt_of_lt_of_le h.1 hn, (he _ (by omega) (by omega)).trans h.2.1, h.counts.cg hn (he _ (by omega) (by omega)), h.keys.cg hn (he _ (by omega) (by omega)), h.values.cg hn (he _ (by omega) (by omega)), h.given.cg hn (he _ (by omega) (by omega))⟩
theorem isN.cg {o : Nat} (h : isN n L dA o) (hn : n ≤ n2) (he : ∀ k, o ≤ k → k ≤ o + 10 → L2 k = L k) : isN n2 L2 dA o :=
  ⟨Nat.lt_of_lt_of_le h.1 hn, (he _ (by omega) (by omega)).trans h.2.1, h.candidate.cg hn (fun k h1 h2 => he k (by omega) (by omega)), h.base.cg hn (fun k h1 h2 => he k (by omega) (by omega))⟩
theorem isC.cg (h : isC n L dA) (hn : n ≤ n2) (he : ∀ k, 1 ≤ k → k ≤ 24 → L2 k = L k) : isC n2 L2 dA :=
  ⟨Nat.lt_of_lt_of_le h.1 hn, (he _ (by omega) (by omega)).trans h.2.1, h.leaves.cg hn (he _ (by omega) (by omega)), ⟨Nat.lt_of_lt_of_le h.leafTable.1 hn, (he _ (by omega) (by omega)).trans h.leafTable.2⟩, ⟨Nat.lt_of_lt_of_le h.rules.1 hn, (he _ (by omega) (by omega)).trans h.rules.2⟩, fun j hj => ⟨Nat.lt_of_lt_of_le (h.2.2.2.2.2.1 j hj).1 hn, (he _ (by omega) (by omega)).trans (h.2.2.2.2.2.1 j hj).2⟩, fun j hj => ⟨Nat.lt_of_lt_of_le (h.2.2.2.2.2.2 j hj).1 hn, (he _ (by omega) (by omega)).trans (h.2.2.2.2.2.2 j hj).2⟩⟩
end
/-- one cell's content under another layout -/
theorem sd_H_at {D : va_G} {cl : List vw_C} {n t : Nat} {ad : Nat → Nat} {L : Nat → sdL} {M : sdM} {H : Heap} {ly : sdL} (h : sd_H D cl n ad L M H) (he : t < n → va_at D cl (ad t, L t ad (M t)) H → va_at D cl (ad t, ly ad (M t)) H) : sd_H D cl n ad (va_up L t ly) M H := fun k hk => by
  by_cases hkt : k = t
  · subst hkt; rw [va_up_self]; exact he hk (h k hk)
  · rw [va_up_ne L ly hkt]; exact h k hk
/-- a filled array of references -/
theorem sd_full {D : va_G} {cl : List vw_C} {a len : Nat} {ad : Nat → Nat} {f : Nat → Int32} {H : Heap} {c : ClassId} {g : Nat → Option Nat} {g2 : Nat → Nat} (hg : ∀ j, j < len → g j = some (g2 j)) (h : va_at D cl (a, sd_P c len g ad f) H) : va_at D cl (a, sd_Q c len g2 ad f) H := by
  have h1 : H[a]? = some (arrV c len (fun j => va_rf ((g j).map ad))) := h
  show H[a]? = some (arrV c len (fun j => va_rf (if j < len then some (ad (g2 j)) else none)))
  rw [h1]
  have h2 : arrV c len (fun j => va_rf ((g j).map ad)) = arrV c len (fun j => va_rf (if j < len then some (ad (g2 j)) else none)) := by
    unfold arrV
    congr 1
    apply congrArg
    funext j
    show va_rf ((g j.val).map ad) = va_rf (if j.val < len then some (ad (g2 j.val)) else none)
    rw [hg j.val j.isLt, if_pos j.isLt]
    rfl
  rw [h2]
def sd_Pl (n : Nat) (g : Nat → Option Nat) : Prop := ∀ j t, g j = some t → t < n
theorem sd_Pl_none {n : Nat} : sd_Pl n (fun _ => none) := fun _ _ h => nomatch h
theorem sd_Pl_up {n i t : Nat} {g : Nat → Option Nat} (h : sd_Pl n g) (ht : t < n) : sd_Pl n (va_up g i (some t)) := fun j u e => by
  by_cases hj : j = i
  · subst hj
    rw [va_up_self] at e
    cases e
    exact ht
  · rw [va_up_ne g _ hj] at e
    exact h j u e
theorem sd_P_loc {n len : Nat} {c : ClassId} {g : Nat → Option Nat} (h : sd_Pl n g) : ∀ (a a' : Nat → Nat) (f : Nat → Int32), (∀ t, t < n → a t = a' t) → sd_P c len g a f = sd_P c len g a' f := fun a a' f e => by
  have hf : (fun j => (g j).map a) = (fun j => (g j).map a') := by
    funext j
    cases hg : g j with
    | none => rfl
    | some t => show some (a t) = some (a' t); rw [e t (h j t hg)]
  unfold sd_P
  rw [hf]
theorem sd_Q_loc {n len : Nat} {c : ClassId} {g : Nat → Nat} (h : ∀ j, j < len → g j < n) : ∀ (a a' : Nat → Nat) (f : Nat → Int32), (∀ t, t < n → a t = a' t) → sd_Q c len g a f = sd_Q c len g a' f := fun a a' f e => by
  have hf : (fun j => if j < len then some (a (g j)) else none) = (fun j => if j < len then some (a' (g j)) else none) := by
    funext j
    by_cases hj : j < len
    · rw [if_pos hj, if_pos hj, e _ (h j hj)]
    · rw [if_neg hj, if_neg hj]
  unfold sd_Q
  rw [hf]
