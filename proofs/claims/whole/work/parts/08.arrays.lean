/-! new arrays -/
section
variable {l : Launch} {E : sdE} {Y : sdY} {D : va_G} {tys : List (ClassId × FieldType)} {b n : Nat} {ad : Nat → Nat} {L : Nat → sdL} {aF : Nat → Nat} {F : sdM → Heap → Prop} {Q : Option Value → sdM → Prop} {X : String → sdM → Prop}
variable {pc : Nat} {loc : List (Nat × Value)} {st : List Value} {M : sdM} {rc rs : Nat}
/-- new int[len], new boolean[len] -/
theorem x_newI {atype : ArrayType} {ty : FieldType} {t0 len : Nat} {cA : ClassId} {x : Int32} (hA : sd_ad b n ad) (hloc : sd_loc n L) (hb1 : ∀ q ∈ loc, sd_bel n q.2) (hb2 : ∀ v ∈ st, sd_bel n v) (d : decode Y.2.1 pc = .ok (.newarray atype, 2)) (hty : newarray.typeOf atype = ty) (hz : ty = .int ∨ ty = .boolean) (harr : Cond.arrayClass (newarray.typeOf atype) ∈ Y.2.2.2.2.1) (ht : tys[t0]? = some (cA, ty)) (hx : ¬ x < 0) (hN : x.toNatClampNeg = len) (hsz : len * componentBytes ty ≤ 536870912) (hR3 : Y.2.2.2.2.2.1.cells = Y.2.2.2.2.2.2.1) (hR4 : Y.2.2.2.2.2.1.slots = Y.2.2.2.2.2.2.2)
    (k : ∀ (ad2 : Nat → Nat) (M2 : sdM), sd_ad b (n + 1) ad2 → sd_loc (n + 1) (va_up L n (sd_I cA len)) → sd_up n L (n + 1) (va_up L n (sd_I cA len)) → (∀ k, k < n → ad2 k = ad k) → M2 = va_up M n (fun _ => 0) → sdW l E Y D tys b (n + 1) ad2 (va_up L n (sd_I cA len)) aF F Q X (pc + 2) loc (.ref n :: st) M2 rc rs) : sdW l E Y D tys b n ad L aF F Q X pc loc (.int x :: st) M (rc + 1) (rs + len) := by
  intro p e s m args below meth c H locs ls cells slots hC hK hH hS hl hc hs
  refine va_newa (a0 := (len, .inl (fun _ => 0))) hC.1.1 hC.1.2.1 (hC.1.2.2.2.2 _ harr) hty hK.1 hH.toP hA.toD hS (fun q h => Nat.le_trans hK.2.2.2.2.1 h) (fun cA9 => by rcases hz with rfl | rfl <;> rfl) hx hN hsz (by rw [hR3]; omega) (by rw [hR4]; omega) d (fun q cA9 H1 hK1 hP1 hD1 hS1 => ?_)
  have he : cA9 = cA := by
    have h1 := (hK1.2 tys.length (cA9, ty) (by rw [List.getElem?_append_right (Nat.le_refl _), Nat.sub_self]; rfl)).2
    have h2 := (hK.1.2 t0 (cA, ty) ht).2
    rcases hz with rfl | rfl <;> exact Option.some.inj (h1.symm.trans h2)
  subst he
  obtain ⟨g1, g2, g3, g4, g5⟩ := sd_grow (ly := sd_I cA9 len) (f := fun _ => 0) hloc (fun a f => rfl) rfl hP1 hD1
  have key := k _ _ g2 g3 g4 g5 rfl p e s m args below meth c H1 locs ls (cells + 1) (slots + len) hC hK g1 hS1 (by rw [sd_l_ext g5 hb1]; exact hl) (by omega) (by omega)
  have hst : List.map (sd_v (va_up ad n q)) (.ref n :: st) = .ref q :: st.map (sd_v ad) := by
    rw [List.map_cons, sd_map_ext g5 hb2]
    show Value.ref (va_up ad n q n) :: _ = _
    rw [va_up_self]
  rw [hst] at key
  exact key
end
/-- an array of references that is being filled -/
def sd_P (c : ClassId) (n : Nat) (g : Nat → Option Nat) : sdL := fun ad _ => .inl (c, n, .inr (.inr (.inr (.inr (fun j => (g j).map ad)))))
