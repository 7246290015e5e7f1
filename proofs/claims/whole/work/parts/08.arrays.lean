/-! new arrays -/
section
variable {l : Launch} {E : sdE} {Y : sdY} {D : va_G} {tys : List (ClassId × FieldType)} {b n : Nat} {ad : Nat → Nat} {L : Nat → sdL} {aF : Nat → Nat} {F : sdM → Heap → Prop} {Q : Option Value → sdM → Prop} {X : String → sdM → Prop}
variable {pc : Nat} {loc : List (Nat × Value)} {st : List Value} {M : sdM} {rc rs : Nat}
/-- new int[len], new boolean[len] -/
theorem x_newI {atype : ArrayType} {ty : FieldType} {t0 len : Nat} {cA : ClassId} {x : Int32} (hA : sd_ad b n ad) (hloc : sd_loc n L) (hb1 : ∀ q ∈ loc, sd_bel n q.2) (hb2 : ∀ v ∈ st, sd_bel n v) (d : decode Y.2.1 pc = .ok (.newarray atype, 2)) (hty : newarray.typeOf atype = ty) (hz : ty = .int ∨ ty = .boolean) (harr : Cond.arrayClass (newarray.typeOf atype) ∈ Y.2.2.2.2.1) (ht : tys[t0]? = some (cA, ty)) (hx : ¬ x < 0) (hN : x.toNatClampNeg = len) (hsz : len * componentBytes ty ≤ 536870912) (hR3 : Y.2.2.2.2.2.1.cells = Y.2.2.2.2.2.2.1) (hR4 : Y.2.2.2.2.2.1.slots = Y.2.2.2.2.2.2.2)
    (k : ∀ (ad2 : Nat → Nat) (M2 : sdM), sd_ad b (n + 1) ad2 → sd_loc (n + 1) (va_up L n (sd_I cA len)) → sd_up n L (n + 1) (va_up L n (sd_I cA len)) → (∀ k, k < n → ad2 k = ad k) → M2 = va_up M n (fun _ => 0) → sdW l E Y D tys b (n + 1) ad2 (va_up L n (sd_I cA len)) aF F Q X (pc + 2) loc (.ref n :: st) M2 rc rs) : sdW l E Y D tys b n ad L aF F Q X pc loc (.int x :: st) M (rc + 1) (rs + len) := by
  intro p e s m args below meth c H locs ls cells slots hC hK hH hS hl hc hs
  refine va_newa (a0 := (len, .inl (fun _ => 0))) hC.1.1 hC.1.2.1 (hC.1.2.2.2.2 _ harr) hty hK.1 hH.toP hA.toD hS (fun q h => Nat.le_trans hK.2.2.2.2.1 h) (fun cA9 => by rcases hz with rfl | rfl <;> rfl) hx hN hsz (by rw [hR3]; omega) (by rw [hR4]; omega) d (fun q cA9 H1 hK1 hP1 hD1 hS1 => ?_)
  have he : cA9 = cA := by
    have h1 := (hK1.2 tys.length (cA9, ty) (by rw [List.getElem?_append_right (Nat.le_refl _), Nat.sub_self]; rfl)).2
    have h2 := (hK.1.2 t0 (cA, ty) ht).2
    rcases hz with rfl | rfl <;> exact Option.some.inj (h1.symm.trans h2)
  subst he
  obtain ⟨g1, g2, g3, g4, g5⟩ := sd_grow (ly := sd_I cA9 len) (f := fun _ => 0) hloc (fun a f => rfl) rfl hP1 hD1
  have key := k _ _ g2 g3 g4 g5 rfl p e s m args below meth c H1 locs ls (cells + 1) (slots + len) hC hK g1 hS1 (by rw [sd_l_ext g5 hb1]; exact hl) (by omega) (by omega)
  have hst : List.map (sd_v (va_up ad n q)) (.ref n :: st) = .ref q :: st.map (sd_v ad) := by
    rw [List.map_cons, sd_map_ext g5 hb2]
    show Value.ref (va_up ad n q n) :: _ = _
    rw [va_up_self]
  rw [hst] at key
  exact key
end
/-- an array of references that is being filled -/
def sd_P (c : ClassId) (n : Nat) (g : Nat → Option Nat) : sdL := fun ad _ => .inl (c, n, .inr (.inr (.inr (.inr (fun j => (g j).map ad)))))
section
variable {l : Launch} {E : sdE} {Y : sdY} {D : va_G} {tys : List (ClassId × FieldType)} {b n : Nat} {ad : Nat → Nat} {L : Nat → sdL} {aF : Nat → Nat} {F : sdM → Heap → Prop} {Q : Option Value → sdM → Prop} {X : String → sdM → Prop}
variable {pc : Nat} {loc : List (Nat × Value)} {st : List Value} {M : sdM} {rc rs : Nat}
/-- new C[len] -/
theorem x_newQ {C : String} {idx t0 len : Nat} {cA : ClassId} {x : Int32} (hA : sd_ad b n ad) (hloc : sd_loc n L) (hb1 : ∀ q ∈ loc, sd_bel n q.2) (hb2 : ∀ v ∈ st, sd_bel n v) (d : decode Y.2.1 pc = .ok (.anewarray idx, 3)) (h1 : Cond.classLink Y.1 idx C ∈ Y.2.2.2.2.1) (h2 : Cond.arrayOver (.object C) ∈ Y.2.2.2.2.1) (ht : tys[t0]? = some (cA, .object C)) (hx : ¬ x < 0) (hN : x.toNatClampNeg = len) (hsz : len * 4 ≤ 536870912) (hR3 : Y.2.2.2.2.2.1.cells = Y.2.2.2.2.2.2.1) (hR4 : Y.2.2.2.2.2.1.slots = Y.2.2.2.2.2.2.2)
    (k : ∀ (ad2 : Nat → Nat) (M2 : sdM), sd_ad b (n + 1) ad2 → sd_loc (n + 1) (va_up L n (sd_P cA len (fun _ => none))) → sd_up n L (n + 1) (va_up L n (sd_P cA len (fun _ => none))) → (∀ k, k < n → ad2 k = ad k) → M2 = va_up M n (fun _ => 0) → sdW l E Y D tys b (n + 1) ad2 (va_up L n (sd_P cA len (fun _ => none))) aF F Q X (pc + 3) loc (.ref n :: st) M2 rc rs) : sdW l E Y D tys b n ad L aF F Q X pc loc (.int x :: st) M (rc + 1) (rs + len) := by
  intro p e s m args below meth c H locs ls cells slots hC hK hH hS hl hc hs
  refine va_newq hC.1.1 hC.1.2.1 hC.1.2.2.2.1 (hC.1.2.2.2.2 _ h1) (va_AO.of (hC.1.2.2.2.2 _ h2)) hK.1 hH.toP hA.toD hS (fun q h => Nat.le_trans hK.2.2.2.2.1 h) hx hN hsz (by rw [hR3]; omega) (by rw [hR4]; omega) d (fun q cA9 H1 hK1 hP1 hD1 hS1 => ?_)
  have he : cA9 = cA := by
    obtain ⟨_, _, _, _, _, g4⟩ := (hK1.2 tys.length (cA9, .object C) (by rw [List.getElem?_append_right (Nat.le_refl _), Nat.sub_self]; rfl)).2
    obtain ⟨_, _, _, _, _, g5⟩ := (hK.1.2 t0 (cA, .object C) ht).2
    exact Option.some.inj (g4.symm.trans g5)
  subst he
  obtain ⟨g1, g2, g3, g4, g5⟩ := sd_grow (ly := sd_P cA9 len (fun _ => none)) (f := fun _ => 0) hloc (fun a f => rfl) rfl hP1 hD1
  have key := k _ _ g2 g3 g4 g5 rfl p e s m args below meth c H1 locs ls (cells + 1) (slots + len) hC hK g1 hS1 (by rw [sd_l_ext g5 hb1]; exact hl) (by omega) (by omega)
  have hst : List.map (sd_v (va_up ad n q)) (.ref n :: st) = .ref q :: st.map (sd_v ad) := by
    rw [List.map_cons, sd_map_ext g5 hb2]
    show Value.ref (va_up ad n q n) :: _ = _
    rw [va_up_self]
  rw [hst] at key
  exact key
/-- a reference into such an array -/
theorem x_aast {t u t0 len ci N : Nat} {cA : ClassId} {C : String} {T : u_T} {fs : List (Option (Option Nat))} {g : Nat → Option Nat} {i : Int32} (hA : sd_ad b n ad) (d : decode Y.2.1 pc = .ok (.aastore, 1)) (hn : t < n) (hL : L t = sd_P cA len g) (hn2 : u < n) (hL2 : L u = sd_O ci fs) (hc9 : E.1[ci]? = some (C, T, N)) (ht : tys[t0]? = some (cA, .object C)) (hi : vp_in i len)
    (k : sdW l E Y D tys b n ad (va_up L t (sd_P cA len (va_up g i.toNatClampNeg (some u)))) aF F Q X (pc + 1) loc st M rc rs) : sdW l E Y D tys b n ad L aF F Q X pc loc (.ref u :: .int i :: .ref t :: st) M rc rs := by
  intro p e s m args below meth c H locs ls cells slots hC hK hH hS hl hc hs
  have hG : (sd_G n ad L M)[t]? = some (ad t, .inl (cA, len, .inr (.inr (.inr (.inr (fun j => (g j).map ad)))))) := by rw [sd_G_get hn, hL]; rfl
  have hG2 : (sd_G n ad L M)[u]? = some (ad u, .inr (ci, sd_fv ad (M u) 0 fs)) := by rw [sd_G_get hn2, hL2]; rfl
  refine va_astq (r := (C, T, N)) hC.1.1 hC.1.2.1 hK.1 hH.toP hA.toD hS t t0 u ci hG ht hG2 hc9 hi d (fun H1 locs1 hP1 _ hS1 => ?_)
  have hset : (sd_G n ad L M).set t (ad t, .inl (cA, len, .inr (.inr (.inr (.inr (va_up (fun j => (g j).map ad) i.toNatClampNeg (some (ad u)))))))) = sd_G n ad (va_up L t (sd_P cA len (va_up g i.toNatClampNeg (some u)))) M := by
    apply List.ext_getElem?
    intro q
    by_cases hq : q = t
    · subst hq
      rw [List.getElem?_set_self (by rw [sd_G_len]; exact hn), sd_G_get hn, va_up_self]
      have hf : (va_up (fun j => (g j).map ad) i.toNatClampNeg (some (ad u))) = (fun j => (va_up g i.toNatClampNeg (some u) j).map ad) := by
        funext j
        by_cases hj : j = i.toNatClampNeg
        · subst hj; rw [va_up_self, va_up_self]; rfl
        · rw [va_up_ne _ _ hj, va_up_ne _ _ hj]
      rw [hf]
      rfl
    · rw [List.getElem?_set_ne (Ne.symm hq)]
      by_cases h : q < n
      · rw [sd_G_get h, sd_G_get h, va_up_ne L _ hq]
      · rw [List.getElem?_eq_none (by rw [sd_G_len]; omega), List.getElem?_eq_none (by rw [sd_G_len]; omega)]
  rw [hset] at hP1
  exact k p e s m args below meth c H1 locs1 ls cells slots hC hK (sd_H.ofP hP1) hS1 hl hc hs
end
