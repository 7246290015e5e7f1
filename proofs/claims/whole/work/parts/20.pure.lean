def zN (a : Nat) : Int32 := Int32.ofNat a
theorem zN_int {a : Nat} (h : a < 2147483648) : (zN a).toInt = a := by
  unfold zN
  exact Int32.toInt_ofNat_of_lt h
theorem zN_nat {a : Nat} (h : a < 2147483648) : (zN a).toNatClampNeg = a := by
  have h1 := zN_int h
  unfold Int32.toNatClampNeg
  rw [h1]; simp
theorem zN_lt {a b : Nat} (h : a < 2147483648) (h' : b < 2147483648) : zN a < zN b ↔ a < b := by
  rw [Int32.lt_iff_toInt_lt, zN_int h, zN_int h']; omega
theorem zN_le {a b : Nat} (h : a < 2147483648) (h' : b < 2147483648) : zN a ≤ zN b ↔ a ≤ b := by
  rw [Int32.le_iff_toInt_le, zN_int h, zN_int h']; omega
theorem zN_eq {a b : Nat} (h : a < 2147483648) (h' : b < 2147483648) : zN a = zN b ↔ a = b := by
  refine ⟨fun e => ?_, fun e => by rw [e]⟩
  have := congrArg Int32.toInt e
  rw [zN_int h, zN_int h'] at this; omega
theorem zN_add (a b : Nat) : zN a + zN b = zN (a + b) := (Int32.ofNat_add a b).symm
theorem zN_mul (a b : Nat) : zN a * zN b = zN (a * b) := (Int32.ofNat_mul a b).symm
theorem zN_sub {a b : Nat} (h : b ≤ a) : zN a - zN b = zN (a - b) := by
  have := zN_add (a - b) b
  rw [Nat.sub_add_cancel h] at this
  rw [← this]
  simp
theorem zN_ge {a : Nat} (h : a < 2147483648) : ¬ zN a < 0 := by
  rw [show (0 : Int32) = zN 0 from rfl, zN_lt h (by decide)]; omega
theorem zN_m1 {a : Nat} (h : a < 2147483648) : ¬ zN a = -1 := by
  intro e
  have := congrArg Int32.toInt e
  rw [zN_int h, show (-1 : Int32).toInt = -1 from rfl] at this; omega
theorem zN_in {a n : Nat} (h : a < 2147483648) : vp_in (zN a) n ↔ a < n := by
  unfold vp_in
  rw [zN_nat h]
  have := zN_ge h
  constructor
  · intro g; exact Nat.not_le.mp fun q => g (Or.inr q)
  · intro g q; rcases q with q | q
    · exact this q
    · omega
theorem zN_of {x : Int32} (h : ¬ x < 0) : ∃ a, a < 2147483648 ∧ x = zN a := by
  refine ⟨x.toNatClampNeg, ?_, ?_⟩
  · have := x.toInt_lt; unfold Int32.toNatClampNeg; omega
  · apply Int32.toInt_inj.mp
    have h0 : ¬ x.toInt < 0 := fun q => h (Int32.lt_iff_toInt_lt.mpr q)
    have h1 := x.toInt_lt
    rw [zN_int (by unfold Int32.toNatClampNeg; omega)]
    unfold Int32.toNatClampNeg; omega
theorem zN_c0 : (0 : Int32) = zN 0 := rfl
theorem sd_s_self (M : sdM) (t i : Nat) (x : Int32) : sd_s M t i x t i = x := by simp [sd_s, va_up, upd]
theorem sd_s_ne {M : sdM} {t i j : Nat} {x : Int32} (h : j ≠ i) : sd_s M t i x t j = M t j := by simp [sd_s, va_up, upd, h]
theorem sd_s_o {M : sdM} {t i c : Nat} {x : Int32} (h : c ≠ t) : sd_s M t i x c = M c := by simp [sd_s, va_up, h]
/-- a row of a list: its key, a bit for each leaf that is set, the leaves' values -/
abbrev Row : Type := Nat × Nat × (Nat → Int32)
abbrev ASet : Type := Nat → List Row
def okR (r : Row) : Prop := r.1 ≤ 100 ∧ r.2.1 < 16 ∧ ∀ f, ¬ (f < 4 ∧ r.2.1.testBit f = true) → r.2.2 f = 0
def okL (R : List Row) : Prop := (∀ r ∈ R, okR r) ∧ R.Pairwise (fun a b => a.1 < b.1) ∧ R.length ≤ 12
def rowAt (M : sdM) (o p : Nat) (r : Row) : Prop := M (o + 2) p = zN r.1 ∧ M (o + 4) p = zN r.2.1 ∧ ∀ f, f < 4 → M (o + 3) (4 * p + f) = r.2.2 f
/-- list l of the class's set o holds the rows R -/
def RCl (M : sdM) (o l : Nat) (R : List Row) : Prop := M (o + 1) l = zN R.length ∧ ∀ i r, R[i]? = some r → rowAt M o (12 * l + i) r
def RC (M : sdM) (o : Nat) (A : ASet) : Prop := ∀ l, l < 4 → RCl M o l (A l)
def rowAtM (M : sdM) (p : Nat) (r : Row) : Prop := M 130 p = zN r.1 ∧ M 131 p = zN r.2.1 ∧ ∀ f, f < 4 → r.2.1.testBit f = true → M 132 (4 * p + f) = r.2.2 f
/-- list l of the model's set s holds the rows R -/
def RMl (M : sdM) (s l : Nat) (R : List Row) : Prop := M 129 (4 * s + l) = zN R.length ∧ ∀ i r, R[i]? = some r → rowAtM M (48 * s + 12 * l + i) r
def RM (M : sdM) (s : Nat) (A : ASet) : Prop := ∀ l, l < 4 → RMl M s l (A l)
/-- the place of the key k among the rows -/
def fi (R : List Row) (k : Int32) : Option Nat := R.findIdx? (fun r => zN r.1 == k)
/-- a row's number, as both programs answer it -/
def rowI (base : Nat) : Option Nat → Int32
  | none => -1
  | some i => zN (base + i)
theorem bitC {b f : Nat} (hb : b < 16) (hf : f < 4) : ((zN b &&& ((1 : Int32) <<< (zN f &&& 31))) = 0) ↔ ¬ b.testBit f = true := by
  have h : ∀ b, b < 16 → ∀ f, f < 4 → (((zN b &&& ((1 : Int32) <<< (zN f &&& 31))) = 0) ↔ ¬ b.testBit f = true) := by decide
  exact h b hb f hf
theorem bitM {b f : Nat} (hb : b < 16) (hf : f < 4) : (((zN b >>> (zN f &&& 31)) &&& (1 : Int32)) = 1) ↔ b.testBit f = true := by
  have h : ∀ b, b < 16 → ∀ f, f < 4 → ((((zN b >>> (zN f &&& 31)) &&& (1 : Int32)) = 1) ↔ b.testBit f = true) := by decide
  exact h b hb f hf
/-- rowOf, from the row 12 l + i on -/
theorem p_rowOf_loop {o l : Nat} {M : sdM} {R : List Row} {k : Int32} {Q : Int32 → sdM → Prop} (hl : l < 4) (h : RCl M o l R) (hR : R.length ≤ 12) : ∀ (d i : Nat), i + d = R.length → (∀ j r, j < i → R[j]? = some r → ¬ zN r.1 = k) → Q (rowI (12 * l) (fi R k)) M → h_S_rowOf_6 o Q (d + 1) M (zN l) k (zN (12 * l + i)) := by
  intro d
  induction d with
  | zero =>
    intro i hi hno hq
    refine ⟨(zN_in (by omega)).mpr hl, fun _ => ?_, fun hn => ?_⟩
    · have hf : fi R k = none := by
        unfold fi
        rw [List.findIdx?_eq_none_iff]
        intro x hx
        obtain ⟨j, hj⟩ := List.mem_iff_getElem?.mp hx
        have hjl : j < R.length := (List.getElem?_eq_some_iff.mp hj).1
        simpa using hno j x (by omega) hj
      rw [hf] at hq
      exact hq
    · exfalso
      apply hn
      rw [zN_nat (by omega), h.1, show (12 : Int32) = zN 12 from rfl, zN_mul, zN_add, zN_le (by omega) (by omega)]
      omega
  | succ d ih =>
    intro i hi hno hq
    have hil : i < R.length := by omega
    obtain ⟨r, hr⟩ : ∃ r, R[i]? = some r := ⟨R[i], List.getElem?_eq_getElem hil⟩
    have hrow := h.2 i r hr
    refine ⟨(zN_in (by omega)).mpr hl, fun hn => ?_, fun _ => ?_⟩
    · exfalso
      rw [zN_nat (by omega), h.1, show (12 : Int32) = zN 12 from rfl, zN_mul, zN_add, zN_le (by omega) (by omega)] at hn
      omega
    · refine ⟨(zN_in (by omega)).mpr (by omega), fun hne => ?_, fun he => ?_⟩
      · rw [zN_nat (by omega), hrow.1] at hne
        rw [show (1 : Int32) = zN 1 from rfl, zN_add, show 12 * l + i + 1 = 12 * l + (i + 1) by omega]
        refine ih (i + 1) (by omega) (fun j r' hj hr' => ?_) hq
        by_cases hji : j = i
        · subst hji
          rw [hr] at hr'
          cases hr'
          exact hne
        · exact hno j r' (by omega) hr'
      · rw [zN_nat (by omega), hrow.1] at he
        have hf : fi R k = some i := by
          unfold fi
          rw [List.findIdx?_eq_some_iff_getElem]
          refine ⟨hil, ?_, fun j hj => ?_⟩
          · have : R[i] = r := by rw [List.getElem?_eq_getElem hil] at hr; exact Option.some.inj hr
            simp [this, he]
          · have := hno j R[j] hj (List.getElem?_eq_getElem (by omega))
            simpa using this
        rw [hf] at hq
        exact hq
theorem p_rowOf {o l : Nat} {M : sdM} {R : List Row} {k : Int32} {Q : Int32 → sdM → Prop} (hl : l < 4) (h : RCl M o l R) (hR : R.length ≤ 12) (hq : Q (rowI (12 * l) (fi R k)) M) : w_S_rowOf o M (zN l) k Q := by
  refine ⟨R.length + 1, ?_⟩
  have := p_rowOf_loop (o := o) (k := k) (Q := Q) hl h hR R.length 0 (by omega) (fun j r hj => by omega) hq
  rw [show (12 : Int32) = zN 12 from rfl, zN_mul, show l * 12 = 12 * l + 0 by omega]
  exact this
def lvB (x : Option Row) (f : Nat) : Bool := match x with
  | none => false
  | some r => r.2.1.testBit f
def lvV (x : Option Row) (f : Nat) : Int32 := match x with
  | none => 0
  | some r => r.2.2 f
def bI (c : Bool) : Int32 := if c then 1 else 0
theorem bI_0 {c : Bool} : bI c = 0 ↔ c = false := by cases c <;> decide
theorem bI_1 {c : Bool} : ¬ bI c = 0 ↔ c = true := by cases c <;> decide
theorem bI_B (c : Bool) : sdB (bI c) := by cases c <;> simp [bI, sdB]
theorem bI_eq {c d : Bool} : bI c = bI d ↔ c = d := by cases c <;> cases d <;> decide
/-- p is the number of the row x of the class's set o, or -1 where x is none -/
def isRow (M : sdM) (o : Nat) (p : Int32) (x : Option Row) : Prop := (p = -1 ∧ x = none) ∨ ∃ n r, n < 48 ∧ p = zN n ∧ x = some r ∧ rowAt M o n r ∧ okR r
theorem p_isGiven {o f : Nat} {M : sdM} {p : Int32} {x : Option Row} {Q : Int32 → sdM → Prop} (hx : isRow M o p x) (hf : f < 4) (hq : Q (bI (lvB x f)) M) : w_S_isGiven o M p (zN f) Q := by
  rcases hx with ⟨rfl, rfl⟩ | ⟨n, r, hn, rfl, rfl, hr, hok⟩
  · exact ⟨fun _ => ⟨Or.inl rfl, hq⟩, fun h => (h rfl).elim⟩
  · refine ⟨fun h => (zN_m1 (by omega) h).elim, fun _ => ⟨(zN_in (by omega)).mpr hn, ?_⟩⟩
    rw [zN_nat (by omega), hr.2.1]
    have hb := bitC hok.2.1 hf
    refine ⟨fun h => ?_, fun h => ?_⟩
    · have h9 : lvB (some r) f = false := by simpa [lvB] using hb.mp h
      rw [h9] at hq
      exact ⟨Or.inl rfl, hq⟩
    · have h9 : lvB (some r) f = true := by
        have := mt hb.mpr h
        simpa [lvB] using this
      rw [h9] at hq
      exact ⟨Or.inr rfl, hq⟩
theorem p_valueAt {o f : Nat} {M : sdM} {p : Int32} {x : Option Row} {Q : Int32 → sdM → Prop} (hx : isRow M o p x) (hf : f < 4) (hq : Q (lvV x f) M) : w_S_valueAt o M p (zN f) Q := by
  rcases hx with ⟨rfl, rfl⟩ | ⟨n, r, hn, rfl, rfl, hr, hok⟩
  · exact ⟨fun h => (h rfl).elim, fun _ => hq⟩
  · refine ⟨fun _ => ?_, fun h => (zN_m1 (by omega) h).elim⟩
    rw [show (4 : Int32) = zN 4 from rfl, zN_mul, zN_add]
    refine ⟨(zN_in (by omega)).mpr (by omega), ?_⟩
    rw [zN_nat (by omega), show n * 4 + f = 4 * n + f by omega]
    show Q (M (o + 3) (4 * n + f)) M
    rw [hr.2.2 f hf]
    exact hq
/-- both leaves are alike -/
def sameL (x y : Option Row) (f : Nat) : Bool := lvB x f == lvB y f && lvV x f == lvV y f
theorem p_sameLeaf {o o2 f : Nat} {M : sdM} {p p2 : Int32} {x y : Option Row} {Q : Int32 → sdM → Prop} (hx : isRow M o p x) (hy : isRow M o2 p2 y) (hf : f < 4) (hq : Q (bI (sameL x y f)) M) : w_S_sameLeaf o M p (zN f) o2 p2 Q := by
  refine p_isGiven hx hf (p_isGiven hy hf ⟨fun h => ?_, fun h => ?_⟩)
  · have h1 : sameL x y f = false := by
      have := mt bI_eq.mpr h
      simp [sameL, this]
    rw [h1] at hq
    exact ⟨Or.inl rfl, hq⟩
  · have h1 := bI_eq.mp h
    refine p_valueAt hx hf (p_valueAt hy hf ⟨fun g => ?_, fun g => ?_⟩)
    · have h2 : sameL x y f = false := by simp [sameL, g]
      rw [h2] at hq
      exact ⟨Or.inl rfl, hq⟩
    · have h2 : sameL x y f = true := by simp [sameL, h1, g]
      rw [h2] at hq
      exact ⟨Or.inr rfl, hq⟩
/-- both entries are alike -/
def sameE (x y : Option Row) : Bool := x.isSome == y.isSome && (sameL x y 0 && sameL x y 1 && sameL x y 2 && sameL x y 3)
/-- p holds at f, f + 1, .. (d of them) -/
def allN (p : Nat → Bool) : Nat → Nat → Bool
  | 0, _ => true
  | d + 1, f => p f && allN p d (f + 1)
theorem p_sameEntry_loop {o o2 : Nat} {M : sdM} {p p2 : Int32} {x y : Option Row} {Q : Int32 → sdM → Prop} (hx : isRow M o p x) (hy : isRow M o2 p2 y) : ∀ (d f : Nat), f + d = 4 → Q (bI (allN (sameL x y) d f)) M → h_S_sameEntry_24 o Q (d + 1) M p o2 p2 (zN f) := by
  intro d
  induction d with
  | zero =>
    intro f hf hq
    have : f = 4 := by omega
    subst this
    exact ⟨fun _ => ⟨Or.inr rfl, hq⟩, fun h => (h (by decide)).elim⟩
  | succ d ih =>
    intro f hf hq
    refine ⟨fun h => ?_, fun _ => ?_⟩
    · rw [show (4 : Int32) = zN 4 from rfl, zN_le (by decide) (by omega)] at h; omega
    · refine p_sameLeaf hx hy (by omega) ⟨fun h => ?_, fun h => ?_⟩
      · rw [show (1 : Int32) = zN 1 from rfl, zN_add]
        refine ih (f + 1) (by omega) ?_
        simpa [allN, bI_1.mp h] using hq
      · exact ⟨Or.inl rfl, by rw [allN, bI_0.mp h] at hq; exact hq⟩
theorem sameE_some {r q : Row} : sameE (some r) (some q) = allN (sameL (some r) (some q)) 4 0 := by
  simp [sameE, allN, Bool.and_assoc]
theorem p_sameEntry {o o2 : Nat} {M : sdM} {p p2 : Int32} {x y : Option Row} {Q : Int32 → sdM → Prop} (hx : isRow M o p x) (hy : isRow M o2 p2 y) (hq : Q (bI (sameE x y)) M) : w_S_sameEntry o M p o2 p2 Q := by
  rcases hx with ⟨rfl, rfl⟩ | ⟨n, r, hn, rfl, rfl, hr, hok⟩
  · refine ⟨fun _ => ?_, fun h => (h rfl).elim⟩
    rcases hy with ⟨rfl, rfl⟩ | ⟨n2, r2, hn2, rfl, rfl, hr2, hok2⟩
    · refine ⟨fun h => (h rfl).elim, fun _ => ⟨Or.inr rfl, ?_⟩⟩
      have : sameE none none = true := by decide
      rw [this] at hq; exact hq
    · refine ⟨fun _ => ⟨Or.inl rfl, ?_⟩, fun h => (zN_m1 (by omega) h.symm).elim⟩
      have : sameE none (some r2) = false := rfl
      rw [this] at hq; exact hq
  · refine ⟨fun h => (zN_m1 (by omega) h).elim, fun _ => ⟨fun h2 => ?_, fun h2 => ?_⟩⟩
    · rcases hy with ⟨rfl, rfl⟩ | ⟨n2, r2, hn2, rfl, rfl, hr2, hok2⟩
      · exact (h2 rfl).elim
      · refine ⟨4 + 1, p_sameEntry_loop (Or.inr ⟨n, r, hn, rfl, rfl, hr, hok⟩) (Or.inr ⟨n2, r2, hn2, rfl, rfl, hr2, hok2⟩) 4 0 rfl ?_⟩
        rw [← sameE_some]
        exact hq
    · rcases hy with ⟨-, rfl⟩ | ⟨n2, r2, hn2, rfl, rfl, hr2, hok2⟩
      · refine ⟨fun _ => ⟨Or.inl rfl, ?_⟩, fun h => (zN_m1 (by omega) (h.trans h2)).elim⟩
        have : sameE (some r) none = false := rfl
        rw [this] at hq; exact hq
      · exact (zN_m1 (by omega) h2).elim
theorem RCl.row {M : sdM} {o l i : Nat} {R : List Row} {r : Row} (h : RCl M o l R) (hR : okL R) (hl : l < 4) (hr : R[i]? = some r) : isRow M o (zN (12 * l + i)) (some r) := by
  have hi : i < R.length := (List.getElem?_eq_some_iff.mp hr).1
  exact Or.inr ⟨12 * l + i, r, by have := hR.2.2; omega, rfl, rfl, h.2 i r hr, hR.1 r (List.mem_of_getElem? hr)⟩
/-- the row at an optional place -/
def atR (R : List Row) (i : Option Nat) : Option Row := i.bind (fun i => R[i]?)
theorem RCl.found {M : sdM} {o l : Nat} {R : List Row} {k : Int32} (h : RCl M o l R) (hR : okL R) (hl : l < 4) : isRow M o (rowI (12 * l) (fi R k)) (atR R (fi R k)) := by
  cases hf : fi R k with
  | none => exact Or.inl ⟨rfl, rfl⟩
  | some i =>
    have hi : i < R.length := by
      unfold fi at hf
      exact (List.findIdx?_eq_some_iff_getElem.mp hf).1
    have hr : R[i]? = some R[i] := List.getElem?_eq_getElem hi
    have := h.row hR hl hr
    rw [show atR R (some i) = some R[i] from hr]
    exact this
/-- rows of two lists at the place i are the same -/
def sameAt (R S : List Row) (i : Nat) : Bool := (R[i]?.map (·.1)) == (S[i]?.map (·.1)) && sameE R[i]? S[i]?
def sameLi (R S : List Row) : Bool := R.length == S.length && allN (sameAt R S) R.length 0
theorem endRowI {M : sdM} {o l : Nat} {R : List Row} (h : RCl M o l R) (hl : l < 4) : (zN l * (12 : Int32)) + M (o + 1) (zN l).toNatClampNeg = zN (12 * l + R.length) := by
  rw [zN_nat (by omega), h.1, show (12 : Int32) = zN 12 from rfl, zN_mul, zN_add, Nat.mul_comm]
theorem p_sameList_loop {o o2 l : Nat} {M : sdM} {R S : List Row} {Q : Int32 → sdM → Prop} (hl : l < 4) (h : RCl M o l R) (h2 : RCl M o2 l S) (hR : okL R) (hS : okL S) (he : R.length = S.length) : ∀ (d i : Nat), i + d = R.length → Q (bI (allN (sameAt R S) d i)) M → h_S_sameList_23 o Q (d + 1) M (zN l) o2 (zN (12 * l + i)) := by
  have hlen := hR.2.2
  intro d
  induction d with
  | zero =>
    intro i hi hq
    refine ⟨(zN_in (by omega)).mpr hl, ?_⟩
    rw [endRowI h hl]
    exact ⟨fun _ => ⟨Or.inr rfl, hq⟩, fun hn => (hn ((zN_le (by omega) (by omega)).mpr (by omega))).elim⟩
  | succ d ih =>
    intro i hi hq
    have hir : R[i]? = some R[i] := List.getElem?_eq_getElem (by omega)
    have his : S[i]? = some S[i] := List.getElem?_eq_getElem (by omega)
    have r1 := h.2 i _ hir
    have r2 := h2.2 i _ his
    have k1 := (hR.1 R[i] (List.getElem_mem _)).1
    have k2 := (hS.1 S[i] (List.getElem_mem _)).1
    refine ⟨(zN_in (by omega)).mpr hl, ?_⟩
    rw [endRowI h hl]
    refine ⟨fun hn => ?_, fun _ => ⟨(zN_in (by omega)).mpr (by omega), (zN_in (by omega)).mpr (by omega), ?_⟩⟩
    · rw [zN_le (by omega) (by omega)] at hn; omega
    · rw [zN_nat (by omega), r1.1, r2.1, zN_eq (by omega) (by omega)]
      refine ⟨fun hk => ⟨Or.inl rfl, ?_⟩, fun hk => ?_⟩
      · have : sameAt R S i = false := by simp [sameAt, hir, his, hk]
        rw [allN, this] at hq
        exact hq
      · refine p_sameEntry (h.row hR hl hir) (h2.row hS hl his) ⟨fun g => ?_, fun g => ⟨Or.inl rfl, ?_⟩⟩
        · have : sameAt R S i = true := by simp [sameAt, hir, his, hk, bI_1.mp g]
          rw [allN, this] at hq
          rw [show (1 : Int32) = zN 1 from rfl, zN_add, Nat.add_assoc]
          exact ih (i + 1) (by omega) hq
        · have : sameAt R S i = false := by simp [sameAt, hir, his, bI_0.mp g]
          rw [allN, this] at hq
          exact hq
theorem p_sameList {o o2 l : Nat} {M : sdM} {R S : List Row} {Q : Int32 → sdM → Prop} (hl : l < 4) (h : RCl M o l R) (h2 : RCl M o2 l S) (hR : okL R) (hS : okL S) (hq : Q (bI (sameLi R S)) M) : w_S_sameList o M (zN l) o2 Q := by
  have l1 := hR.2.2
  have l2 := hS.2.2
  refine ⟨(zN_in (by omega)).mpr hl, (zN_in (by omega)).mpr hl, ?_⟩
  rw [zN_nat (by omega), h.1, h2.1, zN_eq (by omega) (by omega)]
  refine ⟨fun he => ⟨R.length + 1, ?_⟩, fun he => ⟨Or.inl rfl, ?_⟩⟩
  · have hs : sameLi R S = allN (sameAt R S) R.length 0 := by simp [sameLi, he]
    rw [hs] at hq
    have := p_sameList_loop (Q := Q) hl h h2 hR hS he R.length 0 (by omega) hq
    rw [show (12 : Int32) = zN 12 from rfl, zN_mul, show l * 12 = 12 * l + 0 by omega]
    exact this
  · have hs : sameLi R S = false := by simp [sameLi, he]
    rw [hs] at hq
    exact hq
def okS (A : ASet) : Prop := ∀ l, l < 4 → okL (A l)
def sameS (A B : ASet) : Bool := allN (fun l => sameLi (A l) (B l)) 4 0
theorem p_sameAs_loop {o o2 : Nat} {M : sdM} {A B : ASet} {Q : Int32 → sdM → Prop} (h : RC M o A) (h2 : RC M o2 B) (hA : okS A) (hB : okS B) : ∀ (d l : Nat), l + d = 4 → Q (bI (allN (fun l => sameLi (A l) (B l)) d l)) M → h_S_sameAs_2 o Q (d + 1) M o2 (zN l) := by
  intro d
  induction d with
  | zero =>
    intro l hl hq
    have : l = 4 := by omega
    subst this
    exact ⟨fun _ => ⟨Or.inr rfl, hq⟩, fun h => (h (by decide)).elim⟩
  | succ d ih =>
    intro l hl hq
    refine ⟨fun h => ?_, fun _ => ?_⟩
    · rw [show (4 : Int32) = zN 4 from rfl, zN_le (by decide) (by omega)] at h; omega
    · refine p_sameList (by omega) (h l (by omega)) (h2 l (by omega)) (hA l (by omega)) (hB l (by omega)) ⟨fun g => ?_, fun g => ⟨Or.inl rfl, ?_⟩⟩
      · rw [show (1 : Int32) = zN 1 from rfl, zN_add]
        refine ih (l + 1) (by omega) ?_
        rw [allN, bI_1.mp g] at hq
        exact hq
      · rw [allN, bI_0.mp g] at hq
        exact hq
theorem p_sameAs {o o2 : Nat} {M : sdM} {A B : ASet} {Q : Int32 → sdM → Prop} (h : RC M o A) (h2 : RC M o2 B) (hA : okS A) (hB : okS B) (hq : Q (bI (sameS A B)) M) : w_S_sameAs o M o2 Q :=
  ⟨4 + 1, p_sameAs_loop h h2 hA hB 4 0 rfl hq⟩
/-- nothing changed but the set o -/
def outS (M M' : sdM) (o : Nat) : Prop := ∀ c, ¬ (o + 1 ≤ c ∧ c ≤ o + 4) → M' c = M c
theorem outS.rf (M : sdM) (o : Nat) : outS M M o := fun _ _ => rfl
theorem outS.tr {M M' M'' : sdM} {o : Nat} (h : outS M M' o) (h' : outS M' M'' o) : outS M M'' o := fun c hc => (h' c hc).trans (h c hc)
theorem outS.RC {M M' : sdM} {o o2 : Nat} {A : ASet} (h : outS M M' o) (hd : o + 5 ≤ o2 ∨ o2 + 5 ≤ o) (hA : RC M o2 A) : RC M' o2 A := by
  intro l hl
  obtain ⟨h1, h2⟩ := hA l hl
  refine ⟨by rw [h _ (by omega)]; exact h1, fun i r hr => ?_⟩
  obtain ⟨g1, g2, g3⟩ := h2 i r hr
  exact ⟨by rw [h _ (by omega)]; exact g1, by rw [h _ (by omega)]; exact g2, fun f hf => by rw [h _ (by omega)]; exact g3 f hf⟩
/-- every row of the set, also one that lies fallow, has bits for four leaves at most -/
def gOK (M : sdM) (o : Nat) : Prop := ∀ j, j < 48 → ∃ b, b < 16 ∧ M (o + 4) j = zN b
theorem outS.gOK {M M' : sdM} {o o2 : Nat} (h : outS M M' o) (hd : o + 5 ≤ o2 ∨ o2 + 5 ≤ o) (hA : gOK M o2) : gOK M' o2 := by
  intro j hj
  obtain ⟨b, hb, e⟩ := hA j hj
  exact ⟨b, hb, by rw [h _ (by omega)]; exact e⟩
theorem p_copyFrom {o o2 : Nat} {M : sdM} {A : ASet} {Q : sdM → Prop} (hd : o + 5 ≤ o2 ∨ o2 + 5 ≤ o) (h : RC M o2 A) (hA : okS A) (hg : gOK M o2) (hq : ∀ M', outS M M' o → RC M' o A → gOK M' o → Q M') : w_S_copyFrom o M o2 Q := by
  refine ⟨by decide, fun M1 e1 => ⟨by decide, fun M2 e2 => ⟨by decide, fun M3 e3 => ⟨by decide, fun M4 e4 => ?_⟩⟩⟩⟩
  have c4 : (4 : Int32).toNatClampNeg = 4 := by decide
  have c0 : (0 : Int32).toNatClampNeg = 0 := by decide
  have c48 : (48 : Int32).toNatClampNeg = 48 := by decide
  have c192 : (192 : Int32).toNatClampNeg = 192 := by decide
  rw [c4, c0] at e1
  rw [c48, c0] at e2 e4
  rw [c192, c0] at e3
  have out : outS M M4 o := by
    intro c hc
    rw [e4, va_up_ne _ _ (by omega), e3, va_up_ne _ _ (by omega), e2, va_up_ne _ _ (by omega), e1, va_up_ne _ _ (by omega)]
  have a1 : ∀ j, j < 4 → M4 (o + 1) j = M (o2 + 1) j := by
    intro j hj
    rw [e4, va_up_ne _ _ (by omega), e3, va_up_ne _ _ (by omega), e2, va_up_ne _ _ (by omega), e1, va_up_self]
    simp [va_cpy, hj]
  have a2 : ∀ j, j < 48 → M4 (o + 2) j = M (o2 + 2) j := by
    intro j hj
    rw [e4, va_up_ne _ _ (by omega), e3, va_up_ne _ _ (by omega), e2, va_up_self]
    have : M1 (o2 + 2) = M (o2 + 2) := by rw [e1, va_up_ne _ _ (by omega)]
    simp [va_cpy, hj, this]
  have a3 : ∀ j, j < 192 → M4 (o + 3) j = M (o2 + 3) j := by
    intro j hj
    rw [e4, va_up_ne _ _ (by omega), e3, va_up_self]
    have : M2 (o2 + 3) = M (o2 + 3) := by rw [e2, va_up_ne _ _ (by omega), e1, va_up_ne _ _ (by omega)]
    simp [va_cpy, hj, this]
  have a4 : ∀ j, j < 48 → M4 (o + 4) j = M (o2 + 4) j := by
    intro j hj
    rw [e4, va_up_self]
    have : M3 (o2 + 4) = M (o2 + 4) := by rw [e3, va_up_ne _ _ (by omega), e2, va_up_ne _ _ (by omega), e1, va_up_ne _ _ (by omega)]
    simp [va_cpy, hj, this]
  refine hq M4 out (fun l hl => ?_) (fun j hj => ?_)
  · obtain ⟨h1, h2⟩ := h l hl
    refine ⟨by rw [a1 l hl]; exact h1, fun i r hr => ?_⟩
    have hi : i < (A l).length := (List.getElem?_eq_some_iff.mp hr).1
    have := (hA l hl).2.2
    obtain ⟨g1, g2, g3⟩ := h2 i r hr
    exact ⟨by rw [a2 _ (by omega)]; exact g1, by rw [a4 _ (by omega)]; exact g2, fun f hf => by rw [a3 _ (by omega)]; exact g3 f hf⟩
  · obtain ⟨b, hb, e⟩ := hg j hj
    exact ⟨b, hb, by rw [a4 _ hj]; exact e⟩
/-- M' is M with the row a of the set o written over the row b -/
def Moved (M M' : sdM) (o a b : Nat)  : Prop := (outS M M' o) ∧ (M' (o + 1) = M (o + 1)) ∧ (∀ r, rowAt M o a r → rowAt M' o b r) ∧ (∀ c r, c ≠ b → rowAt M o c r → rowAt M' o c r) ∧ (gOK M o → gOK M' o)
theorem Moved.out {M M' : sdM} {o a b : Nat}  (h : Moved M M' o a b) : outS M M' o := h.1
theorem Moved.cnt {M M' : sdM} {o a b : Nat}  (h : Moved M M' o a b) : M' (o + 1) = M (o + 1) := h.2.1
theorem Moved.here {M M' : sdM} {o a b : Nat}  (h : Moved M M' o a b) : ∀ r, rowAt M o a r → rowAt M' o b r := h.2.2.1
theorem Moved.oth {M M' : sdM} {o a b : Nat}  (h : Moved M M' o a b) : ∀ c r, c ≠ b → rowAt M o c r → rowAt M' o c r := h.2.2.2.1
theorem Moved.g {M M' : sdM} {o a b : Nat}  (h : Moved M M' o a b) : gOK M o → gOK M' o := h.2.2.2.2
theorem p_moveRow {o a b : Nat} {M : sdM} {Q : sdM → Prop} (ha : a < 48) (hb : b < 48) (hq : ∀ M', Moved M M' o a b → Q M') : w_S_moveRow o M (zN a) (zN b) Q := by
  unfold w_S_moveRow
  rw [show (4 : Int32) = zN 4 from rfl, zN_mul, zN_mul, zN_nat (show a < _ by omega), zN_nat (show b < _ by omega), zN_nat (show a * 4 < _ by omega), zN_nat (show b * 4 < _ by omega), zN_nat (show 4 < _ by omega)]
  refine ⟨(zN_in (by omega)).mpr ha, (zN_in (by omega)).mpr hb, fun M1 e1 => ⟨(zN_in (by omega)).mpr ha, (zN_in (by omega)).mpr hb, fun M2 e2 => ⟨⟨zN_ge (by omega), zN_ge (by omega), zN_ge (by omega), by omega, by omega⟩, fun M3 e3 => hq M3 ?_⟩⟩⟩
  have k1 : M3 (o + 1) = M (o + 1) := by rw [e3, va_up_ne _ _ (by omega), e2, sd_s_o (by omega), e1, sd_s_o (by omega)]
  have k2 : ∀ j, M3 (o + 2) j = if j = b then M (o + 2) a else M (o + 2) j := by
    intro j
    rw [e3, va_up_ne _ _ (by omega), e2, sd_s_o (by omega), e1]
    by_cases hj : j = b
    · subst hj; rw [sd_s_self, if_pos rfl]
    · rw [sd_s_ne hj, if_neg hj]
  have k4 : ∀ j, M3 (o + 4) j = if j = b then M (o + 4) a else M (o + 4) j := by
    intro j
    rw [e3, va_up_ne _ _ (by omega), e2]
    have h1 : M1 (o + 4) = M (o + 4) := by rw [e1, sd_s_o (by omega)]
    by_cases hj : j = b
    · subst hj; rw [sd_s_self, if_pos rfl, h1]
    · rw [sd_s_ne hj, if_neg hj, h1]
  have k3 : ∀ j, M3 (o + 3) j = if b * 4 ≤ j ∧ j < b * 4 + 4 then M (o + 3) (a * 4 + (j - b * 4)) else M (o + 3) j := by
    intro j
    have h1 : M2 (o + 3) = M (o + 3) := by rw [e2, sd_s_o (by omega), e1, sd_s_o (by omega)]
    rw [e3, va_up_self, h1]
    rfl
  refine ⟨fun c hc => ?_, k1, fun r hr => ⟨?_, ?_, fun f hf => ?_⟩, fun c r hc hr => ⟨?_, ?_, fun f hf => ?_⟩, fun hg j hj => ?_⟩
  · rw [e3, va_up_ne _ _ (by omega), e2, sd_s_o (by omega), e1, sd_s_o (by omega)]
  · rw [k2, if_pos rfl]; exact hr.1
  · rw [k4, if_pos rfl]; exact hr.2.1
  · rw [k3, if_pos (by omega), show a * 4 + (4 * b + f - b * 4) = 4 * a + f by omega]; exact hr.2.2 f hf
  · rw [k2, if_neg hc]; exact hr.1
  · rw [k4, if_neg hc]; exact hr.2.1
  · rw [k3, if_neg (by omega)]; exact hr.2.2 f hf
  · rw [k4]
    by_cases hjb : j = b
    · rw [if_pos hjb]; exact hg a ha
    · rw [if_neg hjb]; exact hg j hj
/-- the rows of list l of the set o, as far as g says -/
def rowsAre (M : sdM) (o l : Nat) (g : Nat → Option Row) : Prop := ∀ i r, g i = some r → rowAt M o (12 * l + i) r
/-- the other lists are as they were -/
def othL (M M' : sdM) (o l : Nat) : Prop := ∀ l' S, l' < 4 → l' ≠ l → S.length ≤ 12 → RCl M o l' S → RCl M' o l' S
theorem othL.tr {M M' M'' : sdM} {o l : Nat} (h : othL M M' o l) (h' : othL M' M'' o l) : othL M M'' o l := fun l' S a b c d => h' l' S a b c (h l' S a b c d)
theorem Moved.othL {M M' : sdM} {o l a i : Nat} (h : Moved M M' o a (12 * l + i)) (hi : i < 12) : othL M M' o l := by
  intro l' S hl' hne hS hR
  refine ⟨by rw [h.cnt]; exact hR.1, fun j r hr => h.oth _ r ?_ (hR.2 j r hr)⟩
  have hj : j < S.length := (List.getElem?_eq_some_iff.mp hr).1
  omega
def remF (R : List Row) (i t : Nat) (j : Nat) : Option Row := if j < i then R[j]? else if j < i + t then R[j + 1]? else R[j]?
theorem p_removeEntry_loop {o l i n : Nat} {M0 : sdM} {R : List Row} {Q : sdM → Prop} (hl : l < 4) (hn : R.length = n) (hR : n ≤ 12) (hin : i < n)
    (hq : ∀ M', outS M0 M' o → RCl M' o l (R.eraseIdx i) → othL M0 M' o l → (gOK M0 o → gOK M' o) → Q M') :
    ∀ (d t : Nat) (M : sdM), i + 1 + t + d = n → outS M0 M o → M (o + 1) l = zN n → rowsAre M o l (remF R i t) → othL M0 M o l → (gOK M0 o → gOK M o) → h_S_removeEntry_4 o Q (d + 1) M (zN l) (zN (12 * l + (i + 1 + t))) := by
  intro d
  induction d with
  | zero =>
    intro t M ht hout hc hrow hoth hg
    refine ⟨(zN_in (by omega)).mpr hl, ?_⟩
    rw [zN_nat (by omega), hc, show (12 : Int32) = zN 12 from rfl, zN_mul, zN_add]
    refine ⟨fun _ => ⟨(zN_in (by omega)).mpr hl, (zN_in (by omega)).mpr hl, fun M' e => ?_⟩, fun h => (h ((zN_le (by omega) (by omega)).mpr (by omega))).elim⟩
    rw [hc, show (1 : Int32) = zN 1 from rfl, zN_sub (by omega)] at e
    refine hq M' ?_ ⟨?_, ?_⟩ ?_ ?_
    · exact hout.tr (fun c hcc => by rw [e, sd_s_o (by omega)])
    · rw [e, sd_s_self, List.length_eraseIdx_of_lt (by omega), hn]
    · intro j r hr
      have h1 : remF R i t j = some r := by
        rw [List.getElem?_eraseIdx] at hr
        unfold remF
        by_cases h1 : j < i
        · rw [if_pos h1] at hr ⊢; exact hr
        · rw [if_neg h1] at hr ⊢
          have hj : j + 1 < R.length := (List.getElem?_eq_some_iff.mp hr).1
          rw [if_pos (by omega)]
          exact hr
      obtain ⟨g1, g2, g3⟩ := hrow j r h1
      exact ⟨by rw [e, sd_s_o (by omega)]; exact g1, by rw [e, sd_s_o (by omega)]; exact g2, fun f hf => by rw [e, sd_s_o (by omega)]; exact g3 f hf⟩
    · refine hoth.tr (fun l' S hl' hne hS hRl => ⟨by rw [e, sd_s_ne hne]; exact hRl.1, fun j r hr => ?_⟩)
      obtain ⟨g1, g2, g3⟩ := hRl.2 j r hr
      exact ⟨by rw [e, sd_s_o (by omega)]; exact g1, by rw [e, sd_s_o (by omega)]; exact g2, fun f hf => by rw [e, sd_s_o (by omega)]; exact g3 f hf⟩
    · intro h9 j hj
      obtain ⟨b, hb, e9⟩ := hg h9 j hj
      exact ⟨b, hb, by rw [e, sd_s_o (by omega)]; exact e9⟩
  | succ d ih =>
    intro t M ht hout hc hrow hoth hg
    refine ⟨(zN_in (by omega)).mpr hl, ?_⟩
    rw [zN_nat (by omega), hc, show (12 : Int32) = zN 12 from rfl, zN_mul, zN_add]
    refine ⟨fun h => ?_, fun _ => ?_⟩
    · rw [zN_le (by omega) (by omega)] at h; omega
    · rw [show (1 : Int32) = zN 1 from rfl, zN_sub (by omega), zN_add]
      rw [show 12 * l + (i + 1 + t) - 1 = 12 * l + (i + t) by omega]
      refine p_moveRow (by omega) (by omega) (fun M' hm => ?_)
      rw [show 12 * l + (i + 1 + t) + 1 = 12 * l + (i + 1 + (t + 1)) by omega]
      refine ih (t + 1) M' (by omega) (hout.tr hm.out) (by rw [hm.cnt]; exact hc) (fun j r hj => ?_) (hoth.tr (hm.othL (by omega))) (fun h => hm.g (hg h))
      by_cases hji : j = i + t
      · subst hji
        unfold remF at hj
        rw [if_neg (by omega), if_pos (by omega)] at hj
        refine hm.here r (hrow (i + 1 + t) r ?_)
        unfold remF
        rw [if_neg (by omega), if_neg (by omega), ← hj]
        congr 1
        omega
      · refine hm.oth _ r (by omega) (hrow j r ?_)
        unfold remF at hj ⊢
        by_cases h1 : j < i
        · rw [if_pos h1] at hj ⊢; exact hj
        · rw [if_neg h1] at hj ⊢
          by_cases h2 : j < i + t
          · rw [if_pos (by omega)] at hj; rw [if_pos h2]; exact hj
          · rw [if_neg (by omega)] at hj; rw [if_neg h2]; exact hj
theorem p_removeEntry {o l i : Nat} {M : sdM} {R : List Row} {Q : sdM → Prop} (hl : l < 4) (h : RCl M o l R) (hR : R.length ≤ 12) (hi : i < R.length) (hq : ∀ M', outS M M' o → RCl M' o l (R.eraseIdx i) → othL M M' o l → (gOK M o → gOK M' o) → Q M') : w_S_removeEntry o M (zN l) (zN (12 * l + i)) Q := by
  refine ⟨(R.length - (i + 1)) + 1, ?_⟩
  rw [show (1 : Int32) = zN 1 from rfl, zN_add, show 12 * l + i + 1 = 12 * l + (i + 1 + 0) by omega]
  refine p_removeEntry_loop hl rfl hR hi hq _ 0 M (by omega) (outS.rf _ _) h.1 (fun j r hj => h.2 j r ?_) (fun l' S _ _ _ d => d) (fun h => h)
  unfold remF at hj
  split at hj
  · exact hj
  · split at hj
    · omega
    · exact hj
/-- where a new row of key k goes: behind the last row whose key is not above k -/
def insP (R : List Row) (k : Nat) : Nat → Nat
  | 0 => 0
  | n + 1 => match R[n]? with
    | some r => if r.1 ≤ k then n + 1 else insP R k n
    | none => n + 1
theorem insP_le (R : List Row) (k : Nat) : ∀ n, insP R k n ≤ n
  | 0 => Nat.le_refl _
  | n + 1 => by
    have := insP_le R k n
    unfold insP
    split
    · split <;> omega
    · omega
def newR (k : Nat) : Row := (k, 0, fun _ => 0)
def insL (R : List Row) (k : Nat) : List Row := R.insertIdx (insP R k R.length) (newR k)
def insF (R : List Row) (x : Nat) (j : Nat) : Option Row := if j < x then R[j]? else if j = x then none else R[j - 1]?
/-- what a step within the set o keeps: the memory outside, the counts, the other lists, the fallow rows' bits -/
def Kept (M M' : sdM) (o l : Nat)  : Prop := (outS M M' o) ∧ (M' (o + 1) = M (o + 1)) ∧ (othL M M' o l) ∧ (gOK M o → gOK M' o)
theorem Kept.out {M M' : sdM} {o l : Nat}  (h : Kept M M' o l) : outS M M' o := h.1
theorem Kept.cnt {M M' : sdM} {o l : Nat}  (h : Kept M M' o l) : M' (o + 1) = M (o + 1) := h.2.1
theorem Kept.oth {M M' : sdM} {o l : Nat}  (h : Kept M M' o l) : othL M M' o l := h.2.2.1
theorem Kept.g {M M' : sdM} {o l : Nat}  (h : Kept M M' o l) : gOK M o → gOK M' o := h.2.2.2
theorem Kept.rf (M : sdM) (o l : Nat) : Kept M M o l := ⟨outS.rf _ _, rfl, fun _ _ _ _ _ h => h, fun h => h⟩
theorem Kept.tr {M M' M'' : sdM} {o l : Nat} (h : Kept M M' o l) (h' : Kept M' M'' o l) : Kept M M'' o l := ⟨h.out.tr h'.out, h'.cnt.trans h.cnt, h.oth.tr h'.oth, fun g => h'.g (h.g g)⟩
theorem Moved.kept {M M' : sdM} {o l a i : Nat} (h : Moved M M' o a (12 * l + i)) (hi : i < 12) : Kept M M' o l := ⟨h.out, h.cnt, h.othL hi, h.g⟩
theorem bitDrop : ∀ b, b < 16 → ∀ f, f < 4 → ∃ c, c < 16 ∧ zN b &&& (((1 : Int32) <<< (zN f &&& 31)) ^^^ (-1 : Int32)) = zN c ∧ (∀ g, g < 4 → c.testBit g = (b.testBit g && !(g == f))) := by
  have h : ∀ b, b < 16 → ∀ f, f < 4 → (zN b &&& (((1 : Int32) <<< (zN f &&& 31)) ^^^ (-1 : Int32)) = zN (b &&& (15 - 2 ^ f)) ∧ (b &&& (15 - 2 ^ f)) < 16 ∧ (∀ g, g < 4 → (b &&& (15 - 2 ^ f)).testBit g = (b.testBit g && !(g == f)))) := by decide
  intro b hb f hf
  exact ⟨_, (h b hb f hf).2.1, (h b hb f hf).1, (h b hb f hf).2.2⟩
theorem bitGive : ∀ b, b < 16 → ∀ f, f < 4 → zN b ||| ((1 : Int32) <<< (zN f &&& 31)) = zN (b ||| 2 ^ f) ∧ (b ||| 2 ^ f) < 16 ∧ (∀ g, g < 4 → (b ||| 2 ^ f).testBit g = (b.testBit g || g == f)) := by decide
theorem bits_ext : ∀ b, b < 16 → ∀ c, c < 16 → (∀ g, g < 4 → b.testBit g = c.testBit g) → b = c := by decide
/-- M' is M with one row of the set o changed -/
def RowTo (M M' : sdM) (o p : Nat) (r : Row)  : Prop := (outS M M' o) ∧ (M' (o + 1) = M (o + 1)) ∧ (rowAt M' o p r) ∧ (∀ c r, c ≠ p → rowAt M o c r → rowAt M' o c r) ∧ (gOK M o → gOK M' o)
theorem RowTo.out {M M' : sdM} {o p : Nat} {r : Row}  (h : RowTo M M' o p r) : outS M M' o := h.1
theorem RowTo.cnt {M M' : sdM} {o p : Nat} {r : Row}  (h : RowTo M M' o p r) : M' (o + 1) = M (o + 1) := h.2.1
theorem RowTo.here {M M' : sdM} {o p : Nat} {r : Row}  (h : RowTo M M' o p r) : rowAt M' o p r := h.2.2.1
theorem RowTo.oth {M M' : sdM} {o p : Nat} {r : Row}  (h : RowTo M M' o p r) : ∀ c r, c ≠ p → rowAt M o c r → rowAt M' o c r := h.2.2.2.1
theorem RowTo.g {M M' : sdM} {o p : Nat} {r : Row}  (h : RowTo M M' o p r) : gOK M o → gOK M' o := h.2.2.2.2
theorem RowTo.kept {M M' : sdM} {o l i : Nat} {r : Row} (h : RowTo M M' o (12 * l + i) r) (hi : i < 12) : Kept M M' o l := by
  refine ⟨h.out, h.cnt, fun l' S hl' hne hS hR => ⟨by rw [h.cnt]; exact hR.1, fun j q hq => h.oth _ q ?_ (hR.2 j q hq)⟩, h.g⟩
  have hj : j < S.length := (List.getElem?_eq_some_iff.mp hq).1
  omega
def dropR (r : Row) (c f : Nat) : Row := (r.1, c, fun g => if g = f then 0 else r.2.2 g)
theorem p_drop {o p f : Nat} {M : sdM} {r : Row} {Q : sdM → Prop} (hp : p < 48) (hf : f < 4) (h : rowAt M o p r) (hb : r.2.1 < 16) (hq : ∀ M' c, c < 16 → (∀ g, g < 4 → c.testBit g = (r.2.1.testBit g && !(g == f))) → RowTo M M' o p (dropR r c f) → Q M') : w_S_drop o M (zN p) (zN f) Q := by
  obtain ⟨c, hc, e0, hbits⟩ := bitDrop r.2.1 hb f hf
  refine ⟨(zN_in (by omega)).mpr hp, (zN_in (by omega)).mpr hp, fun M1 e1 => ?_⟩
  rw [zN_nat (by omega), h.2.1, e0] at e1
  rw [show (4 : Int32) = zN 4 from rfl, zN_mul, zN_add]
  refine ⟨(zN_in (by omega)).mpr (by omega), fun M2 e2 => ?_⟩
  rw [zN_nat (by omega), show p * 4 + f = 4 * p + f by omega] at e2
  refine hq M2 c hc hbits ⟨fun c hc => by rw [e2, sd_s_o (by omega), e1, sd_s_o (by omega)], by rw [e2, sd_s_o (by omega), e1, sd_s_o (by omega)], ⟨?_, ?_, fun g hg => ?_⟩, fun c9 q hne hr => ⟨?_, ?_, fun g hg => ?_⟩, fun hg j hj => ?_⟩
  · rw [e2, sd_s_o (by omega), e1, sd_s_o (by omega)]; exact h.1
  · rw [e2, sd_s_o (by omega), e1, sd_s_self]; rfl
  · show M2 (o + 3) (4 * p + g) = if g = f then 0 else r.2.2 g
    by_cases hgf : g = f
    · subst hgf; rw [e2, sd_s_self, if_pos rfl]
    · rw [e2, sd_s_ne (by omega), if_neg hgf, e1, sd_s_o (by omega)]; exact h.2.2 g hg
  · rw [e2, sd_s_o (by omega), e1, sd_s_o (by omega)]; exact hr.1
  · rw [e2, sd_s_o (by omega), e1, sd_s_ne hne]; exact hr.2.1
  · rw [e2, sd_s_ne (by omega), e1, sd_s_o (by omega)]; exact hr.2.2 g hg
  · by_cases hjp : j = p
    · subst hjp; exact ⟨c, hc, by rw [e2, sd_s_o (by omega), e1, sd_s_self]⟩
    · obtain ⟨b, hb9, e9⟩ := hg j hj
      exact ⟨b, hb9, by rw [e2, sd_s_o (by omega), e1, sd_s_ne hjp]; exact e9⟩
def giveR (r : Row) (f : Nat) (v : Int32) : Row := (r.1, r.2.1 ||| 2 ^ f, fun g => if g = f then v else r.2.2 g)
theorem p_give {o p f : Nat} {M : sdM} {r : Row} {v : Int32} {Q : sdM → Prop} (hp : p < 48) (hf : f < 4) (h : rowAt M o p r) (hb : r.2.1 < 16) (hq : ∀ M', RowTo M M' o p (giveR r f v) → Q M') : w_S_give o M (zN p) (zN f) v Q := by
  obtain ⟨e0, hc, hbits⟩ := bitGive r.2.1 hb f hf
  refine ⟨(zN_in (by omega)).mpr hp, (zN_in (by omega)).mpr hp, fun M1 e1 => ?_⟩
  rw [zN_nat (by omega), h.2.1, e0] at e1
  rw [show (4 : Int32) = zN 4 from rfl, zN_mul, zN_add]
  refine ⟨(zN_in (by omega)).mpr (by omega), fun M2 e2 => ?_⟩
  rw [zN_nat (by omega), show p * 4 + f = 4 * p + f by omega] at e2
  refine hq M2 ⟨fun c hc => by rw [e2, sd_s_o (by omega), e1, sd_s_o (by omega)], by rw [e2, sd_s_o (by omega), e1, sd_s_o (by omega)], ⟨?_, ?_, fun g hg => ?_⟩, fun c9 q hne hr => ⟨?_, ?_, fun g hg => ?_⟩, fun hg j hj => ?_⟩
  · rw [e2, sd_s_o (by omega), e1, sd_s_o (by omega)]; exact h.1
  · rw [e2, sd_s_o (by omega), e1, sd_s_self]; rfl
  · show M2 (o + 3) (4 * p + g) = if g = f then v else r.2.2 g
    by_cases hgf : g = f
    · subst hgf; rw [e2, sd_s_self, if_pos rfl]
    · rw [e2, sd_s_ne (by omega), if_neg hgf, e1, sd_s_o (by omega)]; exact h.2.2 g hg
  · rw [e2, sd_s_o (by omega), e1, sd_s_o (by omega)]; exact hr.1
  · rw [e2, sd_s_o (by omega), e1, sd_s_ne hne]; exact hr.2.1
  · rw [e2, sd_s_ne (by omega), e1, sd_s_o (by omega)]; exact hr.2.2 g hg
  · by_cases hjp : j = p
    · subst hjp; exact ⟨_, hc, by rw [e2, sd_s_o (by omega), e1, sd_s_self]⟩
    · obtain ⟨b, hb9, e9⟩ := hg j hj
      exact ⟨b, hb9, by rw [e2, sd_s_o (by omega), e1, sd_s_ne hjp]; exact e9⟩
theorem p_addDrops {o p k : Nat} {M0 : sdM} {Q : Int32 → sdM → Prop} (hp : p < 48) (hq : ∀ M', RowTo M0 M' o p (newR k) → Q (zN p) M') :
    ∀ (d f : Nat) (M : sdM) (r : Row), f + d = 4 → r.1 = k → r.2.1 < 16 → (∀ g, g < f → r.2.1.testBit g = false ∧ r.2.2 g = 0) → RowTo M0 M o p r → h_S_addEntry_61 o Q (d + 1) M (zN p) (zN f) := by
  intro d
  induction d with
  | zero =>
    intro f M r hf hk hb hlow h
    have : f = 4 := by omega
    subst this
    refine ⟨fun _ => hq M ⟨h.out, h.cnt, ⟨?_, ?_, fun g hg => ?_⟩, h.oth, h.g⟩, fun h9 => (h9 (by decide)).elim⟩
    · rw [← hk]; exact h.here.1
    · have : r.2.1 = 0 := bits_ext _ hb 0 (by omega) (fun g hg => by rw [(hlow g hg).1]; simp)
      rw [h.here.2.1, this]; rfl
    · rw [h.here.2.2 g hg]; exact (hlow g hg).2
  | succ d ih =>
    intro f M r hf hk hb hlow h
    refine ⟨fun h9 => ?_, fun _ => ?_⟩
    · rw [show (4 : Int32) = zN 4 from rfl, zN_le (by decide) (by omega)] at h9; omega
    · refine p_drop hp (by omega) h.here hb (fun M' c hc hbits hm => ?_)
      rw [show (1 : Int32) = zN 1 from rfl, zN_add]
      refine ih (f + 1) M' (dropR r c f) (by omega) hk hc (fun g hg => ?_) ⟨h.out.tr hm.out, hm.cnt.trans h.cnt, hm.here, fun c9 q h1 h2 => hm.oth c9 q h1 (h.oth c9 q h1 h2), fun h9 => hm.g (h.g h9)⟩
      refine ⟨?_, ?_⟩
      · show c.testBit g = false
        rw [hbits g (by omega)]
        by_cases hgf : g = f
        · subst hgf; simp
        · rw [(hlow g (by omega)).1]; rfl
      · show (if g = f then (0 : Int32) else r.2.2 g) = 0
        by_cases hgf : g = f
        · rw [if_pos hgf]
        · rw [if_neg hgf]; exact (hlow g (by omega)).2
theorem p_addTail {o l x n k : Nat} {M0 M : sdM} {R : List Row} {Q : Int32 → sdM → Prop} (hl : l < 4) (hn : R.length = n) (hR : n < 12) (hx : x ≤ n) (hc : M (o + 1) l = zN n) (hK : Kept M0 M o l) (hg : gOK M0 o) (hrow : rowsAre M o l (insF R x))
    (hq : ∀ M', outS M0 M' o → RCl M' o l (R.insertIdx x (newR k)) → othL M0 M' o l → gOK M' o → Q (zN (12 * l + x)) M') : k_S_addEntry_41 o Q M (zN l) (zN k) (zN (12 * l + x)) := by
  refine ⟨(zN_in (by omega)).mpr hl, (zN_in (by omega)).mpr hl, fun M1 e1 => ⟨(zN_in (by omega)).mpr (by omega), fun M2 e2 => ⟨4 + 1, ?_⟩⟩⟩
  rw [zN_nat (by omega), hc, show (1 : Int32) = zN 1 from rfl, zN_add] at e1
  rw [zN_nat (by omega)] at e2
  obtain ⟨b, hb, eb⟩ := hK.g hg (12 * l + x) (by omega)
  have u1 : M2 (o + 1) = sd_s M (o + 1) l (zN (n + 1)) (o + 1) := by rw [e2, sd_s_o (by omega), e1]
  have u3 : M2 (o + 3) = M (o + 3) := by rw [e2, sd_s_o (by omega), e1, sd_s_o (by omega)]
  have u4 : M2 (o + 4) = M (o + 4) := by rw [e2, sd_s_o (by omega), e1, sd_s_o (by omega)]
  have u2 : ∀ j, j ≠ 12 * l + x → M2 (o + 2) j = M (o + 2) j := fun j hj => by rw [e2, sd_s_ne hj, e1, sd_s_o (by omega)]
  have uo : outS M M2 o := fun c hcc => by rw [e2, sd_s_o (by omega), e1, sd_s_o (by omega)]
  have u5 : ∀ c r, c ≠ 12 * l + x → rowAt M o c r → rowAt M2 o c r := fun c r hne hr => ⟨by rw [u2 c hne]; exact hr.1, by rw [u4]; exact hr.2.1, fun f hf => by rw [u3]; exact hr.2.2 f hf⟩
  have start : RowTo M2 M2 o (12 * l + x) (k, b, fun g => M (o + 3) (4 * (12 * l + x) + g)) := ⟨outS.rf _ _, rfl, ⟨by rw [e2, sd_s_self], by rw [u4]; exact eb, fun f hf => by rw [u3]⟩, fun _ _ _ h => h, fun h => h⟩
  refine p_addDrops (k := k) (M0 := M2) (by omega) (fun M3 h3 => ?_) 4 0 M2 _ rfl rfl hb (fun g hg => by omega) start
  have key : ∀ c r, c ≠ 12 * l + x → rowAt M o c r → rowAt M3 o c r := fun c r hne hr => h3.oth c r hne (u5 c r hne hr)
  refine hq M3 ((hK.out.tr uo).tr h3.out) ⟨?_, ?_⟩ (hK.oth.tr ?_) ?_
  · rw [h3.cnt, u1, sd_s_self, List.length_insertIdx_of_le_length (by omega), hn]
  · intro j r hj
    rw [List.getElem?_insertIdx] at hj
    by_cases h1 : j < x
    · rw [if_pos h1] at hj
      refine key _ r (by omega) (hrow j r ?_)
      unfold insF; rw [if_pos h1]; exact hj
    · rw [if_neg h1] at hj
      by_cases h2 : j = x
      · subst h2
        rw [if_pos rfl] at hj
        have : r = newR k := by
          split at hj
          · exact (Option.some.inj hj).symm
          · cases hj
        rw [this]
        exact h3.here
      · rw [if_neg h2] at hj
        refine key _ r (by omega) (hrow j r ?_)
        unfold insF; rw [if_neg h1, if_neg h2]; exact hj
  · intro l' S hl' hne hS hRl
    refine ⟨by rw [h3.cnt, u1, sd_s_ne hne]; exact hRl.1, fun j r hj => key _ r ?_ (hRl.2 j r hj)⟩
    have hjl : j < S.length := (List.getElem?_eq_some_iff.mp hj).1
    omega
  · exact h3.g (fun j hj => by rw [u4]; exact hK.g hg j hj)
theorem p_addEntry_loop {o l n k : Nat} {M0 : sdM} {R : List Row} {Q : Int32 → sdM → Prop} (hl : l < 4) (hok : okL R) (hn : R.length = n) (hR : n < 12) (hk : k ≤ 100) (hg : gOK M0 o)
    (hq : ∀ M', outS M0 M' o → RCl M' o l (insL R k) → othL M0 M' o l → gOK M' o → Q (zN (12 * l + insP R k n)) M') :
    ∀ (x : Nat) (M : sdM), x ≤ n → insP R k n = insP R k x → M (o + 1) l = zN n → Kept M0 M o l → rowsAre M o l (insF R x) → h_S_addEntry_6 o Q (x + 1) M (zN l) (zN k) (zN (12 * l + x)) := by
  intro x
  induction x with
  | zero =>
    intro M hx hp hc hK hrow
    show (_ → _) ∧ _
    rw [show (12 : Int32) = zN 12 from rfl, zN_mul]
    refine ⟨fun _ => ?_, fun h => (h ((zN_le (by omega) (by omega)).mpr (by omega))).elim⟩
    refine p_addTail hl hn hR (by omega) hc hK hg hrow (fun M' a1 a2 a3 a4 => ?_)
    have h0 : insP R k n = 0 := hp
    have := hq M' a1 (by unfold insL; rw [hn, h0]; exact a2) a3 a4
    rw [h0] at this
    exact this
  | succ x ih =>
    intro M hx hp hc hK hrow
    have hxl : x < R.length := by omega
    have hr : R[x]? = some R[x] := List.getElem?_eq_getElem hxl
    have hkr := (hok.1 R[x] (List.getElem_mem _)).1
    have hrx := hrow x R[x] (by unfold insF; rw [if_pos (by omega)]; exact hr)
    show (_ → _) ∧ _
    rw [show (12 : Int32) = zN 12 from rfl, zN_mul]
    refine ⟨fun h => ?_, fun _ => ?_⟩
    · rw [zN_le (by omega) (by omega)] at h; omega
    · rw [show (1 : Int32) = zN 1 from rfl, zN_sub (by omega), show 12 * l + (x + 1) - 1 = 12 * l + x by omega]
      refine ⟨(zN_in (by omega)).mpr (by omega), ?_⟩
      rw [zN_nat (by omega), hrx.1, zN_le (by omega) (by omega)]
      refine ⟨fun hle => ?_, fun hgt => ?_⟩
      · refine p_addTail hl hn hR (by omega) hc hK hg hrow (fun M' a1 a2 a3 a4 => ?_)
        have h0 : insP R k n = x + 1 := by rw [hp]; unfold insP; rw [hr]; simp [hle]
        have := hq M' a1 (by unfold insL; rw [hn, h0]; exact a2) a3 a4
        rw [h0] at this
        exact this
      · refine p_moveRow (by omega) (by omega) (fun M' hm => ?_)
        have e9 : zN (12 * l + (x + 1)) + -zN 1 = zN (12 * l + x) := by
          rw [← Int32.sub_eq_add_neg, zN_sub (by omega)]
          rfl
        rw [e9]
        refine ih M' (by omega) ?_ (by rw [hm.cnt]; exact hc) (hK.tr (hm.kept (by omega))) (fun j r hj => ?_)
        · rw [hp]
          show insP R k (x + 1) = _
          unfold insP
          rw [hr]
          simp only [hgt, if_false]
          cases x <;> rfl
        · by_cases h1 : j = x + 1
          · subst h1
            unfold insF at hj
            rw [if_neg (by omega), if_neg (by omega), show x + 1 - 1 = x by omega, hr] at hj
            cases hj
            exact hm.here _ hrx
          · refine hm.oth _ r (by omega) (hrow j r ?_)
            unfold insF at hj ⊢
            by_cases h2 : j < x
            · rw [if_pos h2] at hj; rw [if_pos (by omega)]; exact hj
            · rw [if_neg h2] at hj
              by_cases h3 : j = x
              · rw [if_pos h3] at hj; cases hj
              · rw [if_neg h3] at hj; rw [if_neg (by omega), if_neg h1]; exact hj
theorem p_addEntry {o l k : Nat} {M : sdM} {R : List Row} {Q : Int32 → sdM → Prop} (hl : l < 4) (h : RCl M o l R) (hok : okL R) (hR : R.length < 12) (hk : k ≤ 100) (hg : gOK M o) (hq : ∀ M', outS M M' o → RCl M' o l (insL R k) → othL M M' o l → gOK M' o → Q (zN (12 * l + insP R k R.length)) M') : w_S_addEntry o M (zN l) (zN k) Q := by
  refine ⟨(zN_in (by omega)).mpr hl, R.length + 1, ?_⟩
  rw [endRowI h hl]
  refine p_addEntry_loop hl hok rfl hR hk hg hq R.length M (by omega) rfl h.1 (Kept.rf _ _ _) (fun j r hj => h.2 j r ?_)
  unfold insF at hj
  split at hj
  · exact hj
  · split at hj
    · cases hj
    · have := (List.getElem?_eq_some_iff.mp hj).1
      omega
/-- the least key above k, or 101 (rows in order) -/
def kaft (R : List Row) (k : Int) : Nat := match R.find? (fun r => decide (k < (r.1 : Int))) with
  | some r => r.1
  | none => 101
/-- a key or -1, as an int -/
def zK (k : Int) : Int32 := if k < 0 then -1 else zN k.toNat
theorem zK_le {k : Int} {a : Nat} (hk : k < 2147483648) (h1 : -1 ≤ k) (ha : a < 2147483648) : zN a ≤ zK k ↔ (a : Int) ≤ k := by
  unfold zK
  split
  · rw [Int32.le_iff_toInt_le, zN_int ha, show (-1 : Int32).toInt = -1 from rfl]; omega
  · rw [zN_le ha (by omega)]; omega
theorem p_keyAfter_loop {o l : Nat} {M : sdM} {R : List Row} {k : Int} {Q : Int32 → sdM → Prop} (hl : l < 4) (h : RCl M o l R) (hok : okL R) (hk : -1 ≤ k ∧ k ≤ 101) : ∀ (d i : Nat), i + d = R.length → Q (zN (kaft (R.drop i) k)) M → h_S_keyAfter_6 o Q (d + 1) M (zN l) (zK k) (zN (12 * l + i)) := by
  have hlen := hok.2.2
  intro d
  induction d with
  | zero =>
    intro i hi hq
    refine ⟨(zN_in (by omega)).mpr hl, ?_⟩
    rw [endRowI h hl]
    refine ⟨fun _ => ?_, fun hn => (hn ((zN_le (by omega) (by omega)).mpr (by omega))).elim⟩
    rw [List.drop_of_length_le (by omega)] at hq
    exact hq
  | succ d ih =>
    intro i hi hq
    have hil : i < R.length := by omega
    have hr : R[i]? = some R[i] := List.getElem?_eq_getElem hil
    have hrow := h.2 i _ hr
    have hkr := (hok.1 R[i] (List.getElem_mem _)).1
    refine ⟨(zN_in (by omega)).mpr hl, ?_⟩
    rw [endRowI h hl]
    refine ⟨fun hn => ?_, fun _ => ⟨(zN_in (by omega)).mpr (by omega), ?_⟩⟩
    · rw [zN_le (by omega) (by omega)] at hn; omega
    · rw [List.drop_eq_getElem_cons hil] at hq
      rw [zN_nat (by omega), hrow.1, zK_le (by omega) hk.1 (by omega)]
      refine ⟨fun hle => ?_, fun hgt => ⟨(zN_in (by omega)).mpr (by omega), ?_⟩⟩
      · rw [show (1 : Int32) = zN 1 from rfl, zN_add, Nat.add_assoc]
        refine ih (i + 1) (by omega) ?_
        have : kaft (R[i] :: R.drop (i + 1)) k = kaft (R.drop (i + 1)) k := by
          unfold kaft
          rw [List.find?_cons_of_neg (by simp; omega)]
        rw [this] at hq
        exact hq
      · have : kaft (R[i] :: R.drop (i + 1)) k = R[i].1 := by
          unfold kaft
          rw [List.find?_cons_of_pos (by simp; omega)]
        rw [this] at hq
        exact hq
theorem p_keyAfter {o l : Nat} {M : sdM} {R : List Row} {k : Int} {Q : Int32 → sdM → Prop} (hl : l < 4) (h : RCl M o l R) (hok : okL R) (hk : -1 ≤ k ∧ k ≤ 101) (hq : Q (zN (kaft R k)) M) : w_S_keyAfter o M (zN l) (zK k) Q := by
  refine ⟨R.length + 1, ?_⟩
  rw [show (12 : Int32) = zN 12 from rfl, zN_mul, show l * 12 = 12 * l + 0 by omega]
  exact p_keyAfter_loop hl h hok hk R.length 0 (by omega) (by rw [List.drop_zero]; exact hq)
theorem kaft_le {R : List Row} (hok : okL R) (k : Int) : kaft R k ≤ 101 := by
  unfold kaft
  split
  · rename_i r hr
    have := (hok.1 r (List.mem_of_find?_eq_some hr)).1
    omega
  · exact Nat.le_refl _
def kaft2 (R S : List Row) (k : Int) : Nat := Nat.min (kaft R k) (kaft S k)
theorem p_keyAfterInEither {o o2 l : Nat} {M : sdM} {R S : List Row} {k : Int} {Q : Int32 → sdM → Prop} (hl : l < 4) (h : RCl M o l R) (h2 : RCl M o2 l S) (hok : okL R) (hok2 : okL S) (hk : -1 ≤ k ∧ k ≤ 101) (hq : Q (zN (kaft2 R S k)) M) : w_S_keyAfterInEither o M o2 (zN l) (zK k) Q := by
  have b1 := kaft_le hok k
  have b2 := kaft_le hok2 k
  refine p_keyAfter hl h hok hk (p_keyAfter hl h2 hok2 hk ?_)
  refine ⟨fun hlt => ?_, fun hlt => ?_⟩
  · rw [zN_lt (by omega) (by omega)] at hlt
    show Q (zN (kaft S k)) M
    have : kaft2 R S k = kaft S k := Nat.min_eq_right (by omega)
    rw [← this]; exact hq
  · rw [zN_lt (by omega) (by omega)] at hlt
    show Q (zN (kaft R k)) M
    have : kaft2 R S k = kaft R k := Nat.min_eq_left (by omega)
    rw [← this]; exact hq
def countS (A : ASet) : Nat := (A 0).length + (A 1).length + (A 2).length + (A 3).length
theorem p_entryCount {o : Nat} {M : sdM} {A : ASet} {Q : Int32 → sdM → Prop} (h : RC M o A) (hq : Q (zN (countS A)) M) : w_S_entryCount o M Q := by
  refine ⟨5, ?_⟩
  have c : ∀ l, l < 4 → M (o + 1) l = zN (A l).length := fun l hl => (h l hl).1
  refine ⟨fun h => absurd h (by decide), fun _ => ⟨(zN_in (a := 0) (by omega)).mpr (by omega), ?_⟩⟩
  refine ⟨fun h => absurd h (by decide), fun _ => ⟨(zN_in (a := 1) (by omega)).mpr (by omega), ?_⟩⟩
  refine ⟨fun h => absurd h (by decide), fun _ => ⟨(zN_in (a := 2) (by omega)).mpr (by omega), ?_⟩⟩
  refine ⟨fun h => absurd h (by decide), fun _ => ⟨(zN_in (a := 3) (by omega)).mpr (by omega), ?_⟩⟩
  refine ⟨fun _ => ?_, fun h => absurd (by decide) h⟩
  rw [show (0 : Int32).toNatClampNeg = 0 from rfl, show ((0 : Int32) + 1).toNatClampNeg = 1 from rfl, show ((0 : Int32) + 1 + 1).toNatClampNeg = 2 from rfl, show ((0 : Int32) + 1 + 1 + 1).toNatClampNeg = 3 from rfl, c 0 (by omega), c 1 (by omega), c 2 (by omega), c 3 (by omega), show (0 : Int32) = zN 0 from rfl, zN_add, zN_add, zN_add, zN_add, Nat.zero_add]
  exact hq
/-- a leaf is nothing, by a row and the standard of the leaf's cell -/
theorem p_isNothing {o f c : Nat} {M : sdM} {p : Int32} {x : Option Row} {Q : Int32 → sdM → Prop} {hs : Bool} (hx : isRow M o p x) (hf : f < 4) (hc : M c 5 = bI hs) (hq : Q (bI (!lvB x f && !hs)) M) : w_S_isNothing o M p (zN f) c Q := by
  refine p_isGiven hx hf ⟨fun h => ?_, fun h => ?_⟩
  · rw [bI_1.mp h] at hq
    exact ⟨Or.inl rfl, hq⟩
  · rw [bI_0.mp h] at hq
    rw [hc]
    refine ⟨fun g => ?_, fun g => ?_⟩
    · rw [bI_1.mp g] at hq; exact ⟨Or.inl rfl, hq⟩
    · rw [bI_0.mp g] at hq; exact ⟨Or.inr rfl, hq⟩
theorem p_whatIs {o f c : Nat} {M : sdM} {p : Int32} {x : Option Row} {Q : Int32 → sdM → Prop} {sv : Int32} (hx : isRow M o p x) (hf : f < 4) (hc : M c 6 = sv) (hq : Q (if lvB x f then lvV x f else sv) M) : w_S_whatIs o M p (zN f) c Q := by
  refine p_isGiven hx hf ⟨fun h => ?_, fun h => ?_⟩
  · rw [bI_0.mp h] at hq
    show Q (M c 6) M
    rw [hc]; exact hq
  · rw [bI_1.mp h] at hq
    exact p_valueAt hx hf hq
theorem p_removeAll {o : Nat} {M : sdM} {Q : sdM → Prop} (hq : ∀ M', outS M M' o → RC M' o (fun _ => []) → (gOK M o → gOK M' o) → Q M') : w_S_removeAll o M Q := by
  refine ⟨5, ?_⟩
  refine ⟨fun h => absurd h (by decide), fun _ => ⟨(zN_in (a := 0) (by omega)).mpr (by omega), fun M1 e1 => ?_⟩⟩
  refine ⟨fun h => absurd h (by decide), fun _ => ⟨(zN_in (a := 1) (by omega)).mpr (by omega), fun M2 e2 => ?_⟩⟩
  refine ⟨fun h => absurd h (by decide), fun _ => ⟨(zN_in (a := 2) (by omega)).mpr (by omega), fun M3 e3 => ?_⟩⟩
  refine ⟨fun h => absurd h (by decide), fun _ => ⟨(zN_in (a := 3) (by omega)).mpr (by omega), fun M4 e4 => ?_⟩⟩
  refine ⟨fun _ => ?_, fun h => absurd (by decide) h⟩
  rw [show (0 : Int32).toNatClampNeg = 0 from rfl] at e1
  rw [show ((0 : Int32) + 1).toNatClampNeg = 1 from rfl] at e2
  rw [show ((0 : Int32) + 1 + 1).toNatClampNeg = 2 from rfl] at e3
  rw [show ((0 : Int32) + 1 + 1 + 1).toNatClampNeg = 3 from rfl] at e4
  have ho : ∀ c, c ≠ o + 1 → M4 c = M c := fun c hc => by rw [e4, sd_s_o hc, e3, sd_s_o hc, e2, sd_s_o hc, e1, sd_s_o hc]
  refine hq M4 (fun c hc => ho c (by omega)) (fun l hl => ⟨?_, fun i r hr => by simp at hr⟩) (fun hg j hj => by rw [ho _ (by omega)]; exact hg j hj)
  have : l = 0 ∨ l = 1 ∨ l = 2 ∨ l = 3 := by omega
  rcases this with rfl | rfl | rfl | rfl
  · rw [e4, sd_s_ne (by omega), e3, sd_s_ne (by omega), e2, sd_s_ne (by omega), e1, sd_s_self]; rfl
  · rw [e4, sd_s_ne (by omega), e3, sd_s_ne (by omega), e2, sd_s_self]; rfl
  · rw [e4, sd_s_ne (by omega), e3, sd_s_self]; rfl
  · rw [e4, sd_s_self]; rfl
/-- a leaf of another row is copied into a row -/
def copyR (r : Row) (f : Nat) (y : Option Row) : Row := if lvB y f then giveR r f (lvV y f) else r
theorem p_copyLeaf {o o2 p f : Nat} {M : sdM} {r : Row} {p2 : Int32} {y : Option Row} {Q : sdM → Prop} (hp : p < 48) (hf : f < 4) (h : rowAt M o p r) (hb : r.2.1 < 16) (hy : isRow M o2 p2 y) (hq : ∀ M', RowTo M M' o p (copyR r f y) → Q M') : w_S_copyLeaf o M (zN p) (zN f) o2 p2 Q := by
  refine p_isGiven hy hf ⟨fun g => ?_, fun g => ?_⟩
  · refine hq M ?_
    unfold copyR
    rw [bI_0.mp g, if_neg (by decide)]
    exact ⟨outS.rf _ _, rfl, h, fun _ _ _ h => h, fun h => h⟩
  · refine p_valueAt hy hf (p_give hp hf h hb (fun M' hm => hq M' ?_))
    unfold copyR
    rw [bI_1.mp g, if_pos rfl]
    exact hm
/-- p is the number of the row x in the model's arrays, or -1 where x is none -/
def isRowM (M : sdM) (p : Int32) (x : Option Row) : Prop := (p = -1 ∧ x = none) ∨ ∃ n r, n < 816 ∧ p = zN n ∧ x = some r ∧ rowAtM M n r ∧ okR r
theorem m_isSet {f : Nat} {M : sdM} {p : Int32} {x : Option Row} {Q : Int32 → sdM → Prop} (hx : isRowM M p x) (hf : f < 4) (hq : Q (bI (lvB x f)) M) : w_O_isSet M p (zN f) Q := by
  rcases hx with ⟨rfl, rfl⟩ | ⟨n, r, hn, rfl, rfl, hr, hok⟩
  · exact ⟨fun _ => ⟨Or.inl rfl, hq⟩, fun h => (h (by decide)).elim⟩
  · refine ⟨fun h => (zN_ge (by omega) h).elim, fun _ => ⟨(zN_in (by omega)).mpr hn, ?_⟩⟩
    rw [zN_nat (by omega), hr.2.1]
    have hb := bitM hok.2.1 hf
    refine ⟨fun h => ?_, fun h => ?_⟩
    · have h9 : lvB (some r) f = false := by
        have := mt hb.mpr h
        simpa [lvB] using this
      rw [h9] at hq
      exact ⟨Or.inl rfl, hq⟩
    · have h9 : lvB (some r) f = true := hb.mp h
      rw [h9] at hq
      exact ⟨Or.inr rfl, hq⟩
theorem lvV_0 {x : Option Row} {f : Nat} (hx : ∀ r, x = some r → okR r) (h : lvB x f = false) : lvV x f = 0 := by
  cases x with
  | none => rfl
  | some r => exact (hx r rfl).2.2 f (fun q => by rw [show lvB (some r) f = r.2.1.testBit f from rfl] at h; rw [h] at q; exact absurd q.2 (by decide))
theorem isRowM.ok {M : sdM} {p : Int32} {x : Option Row} (h : isRowM M p x) : ∀ r, x = some r → okR r := by
  rcases h with ⟨rfl, rfl⟩ | ⟨n, r, hn, rfl, rfl, hr, hok⟩
  · intro r h; cases h
  · intro r' h; cases h; exact hok
theorem isRow.ok {M : sdM} {o : Nat} {p : Int32} {x : Option Row} (h : isRow M o p x) : ∀ r, x = some r → okR r := by
  rcases h with ⟨rfl, rfl⟩ | ⟨n, r, hn, rfl, rfl, hr, hok⟩
  · intro r h; cases h
  · intro r' h; cases h; exact hok
theorem m_value {f : Nat} {M : sdM} {p : Int32} {x : Option Row} (hx : isRowM M p x) (hf : f < 4) (h : lvB x f = true) : vp_in (((4 : Int32) * p) + zN f) 3264 ∧ M 132 (((4 : Int32) * p) + zN f).toNatClampNeg = lvV x f := by
  rcases hx with ⟨rfl, rfl⟩ | ⟨n, r, hn, rfl, rfl, hr, hok⟩
  · cases h
  · rw [show (4 : Int32) = zN 4 from rfl, zN_mul, zN_add, zN_nat (by omega)]
    exact ⟨(zN_in (by omega)).mpr (by omega), hr.2.2 f hf h⟩
theorem m_alike {f : Nat} {M : sdM} {p q : Int32} {x y : Option Row} {Q : Int32 → sdM → Prop} (hx : isRowM M p x) (hy : isRowM M q y) (hf : f < 4) (hq : Q (bI (sameL x y f)) M) : w_O_alike M p q (zN f) Q := by
  refine m_isSet hx hf (m_isSet hy hf ⟨fun h => ?_, fun h => m_isSet hx hf ⟨fun g => ?_, fun g => ?_⟩⟩)
  · have h1 : sameL x y f = false := by
      have := mt bI_eq.mpr h
      simp [sameL, this]
    rw [h1] at hq
    exact ⟨Or.inl rfl, hq⟩
  · have h1 := bI_eq.mp h
    have g1 := bI_0.mp g
    have h2 : sameL x y f = true := by
      simp [sameL, h1, lvV_0 hx.ok g1, lvV_0 hy.ok (h1 ▸ g1)]
    rw [h2] at hq
    exact ⟨Or.inr rfl, hq⟩
  · have h1 := bI_eq.mp h
    have g1 := bI_1.mp g
    obtain ⟨v1, v2⟩ := m_value hx hf g1
    obtain ⟨u1, u2⟩ := m_value hy hf (h1 ▸ g1)
    refine ⟨v1, u1, ?_⟩
    rw [v2, u2]
    refine ⟨fun k => ?_, fun k => ?_⟩
    · have h2 : sameL x y f = false := by simp [sameL, k]
      rw [h2] at hq
      exact ⟨Or.inl rfl, hq⟩
    · have h2 : sameL x y f = true := by simp [sameL, h1, k]
      rw [h2] at hq
      exact ⟨Or.inr rfl, hq⟩
theorem isRowM.sgn {M : sdM} {p : Int32} {x : Option Row} (h : isRowM M p x) : 0 ≤ p ↔ x.isSome = true := by
  rcases h with ⟨rfl, rfl⟩ | ⟨n, r, hn, rfl, rfl, hr, hok⟩
  · exact ⟨fun h => absurd h (by decide), fun h => by cases h⟩
  · refine ⟨fun _ => rfl, fun _ => ?_⟩
    rw [show (0 : Int32) = zN 0 from rfl, zN_le (by omega) (by omega)]; omega
theorem m_sameEntry {M : sdM} {p q : Int32} {x y : Option Row} {Q : Int32 → sdM → Prop} (hx : isRowM M p x) (hy : isRowM M q y) (hq : Q (bI (sameE x y)) M) : w_O_sameEntry M p q Q := by
  have fin : ∀ s0 s1 : Int32, (s0 = s1 ↔ x.isSome = y.isSome) → k_O_sameEntry_18 Q M p q s0 s1 := by
    intro s0 s1 hs
    refine ⟨fun h => ⟨Or.inl rfl, ?_⟩, fun h => ?_⟩
    · have : sameE x y = false := by
        have := mt hs.mpr h
        simp [sameE, this]
      rw [this] at hq; exact hq
    · have e0 := hs.mp h
      refine m_alike (f := 0) hx hy (by omega) ⟨fun g => ⟨Or.inl rfl, ?_⟩, fun g0 => ?_⟩
      · have : sameE x y = false := by simp [sameE, bI_0.mp g]
        rw [this] at hq; exact hq
      refine m_alike (f := 1) hx hy (by omega) ⟨fun g => ⟨Or.inl rfl, ?_⟩, fun g1 => ?_⟩
      · have : sameE x y = false := by simp [sameE, bI_0.mp g]
        rw [this] at hq; exact hq
      refine m_alike (f := 2) hx hy (by omega) ⟨fun g => ⟨Or.inl rfl, ?_⟩, fun g2 => ?_⟩
      · have : sameE x y = false := by simp [sameE, bI_0.mp g]
        rw [this] at hq; exact hq
      refine m_alike (f := 3) hx hy (by omega) ⟨fun g => ⟨Or.inl rfl, ?_⟩, fun g3 => ⟨Or.inr rfl, ?_⟩⟩
      · have : sameE x y = false := by simp [sameE, bI_0.mp g]
        rw [this] at hq; exact hq
      · have : sameE x y = true := by simp [sameE, e0, bI_1.mp g0, bI_1.mp g1, bI_1.mp g2, bI_1.mp g3]
        rw [this] at hq; exact hq
  have s1 := hx.sgn
  have s2 := hy.sgn
  refine ⟨fun h => ⟨fun g => ?_, fun g => ?_⟩, fun h => ⟨fun g => ?_, fun g => ?_⟩⟩
  · exact fin 0 0 ⟨fun _ => by rw [s1.mp h, s2.mp g], fun _ => rfl⟩
  · have g9 : y.isSome = false := by simpa using mt s2.mpr g
    exact fin 0 1 ⟨fun h9 => absurd h9 (by decide), fun h9 => by rw [s1.mp h, g9] at h9; cases h9⟩
  · have h9' : x.isSome = false := by simpa using mt s1.mpr h
    exact fin 1 0 ⟨fun h9 => absurd h9 (by decide), fun h9 => by rw [h9', s2.mp g] at h9; cases h9⟩
  · have g9 : y.isSome = false := by simpa using mt s2.mpr g
    have h9' : x.isSome = false := by simpa using mt s1.mpr h
    exact fin 1 1 ⟨fun _ => by rw [h9', g9], fun _ => rfl⟩
theorem zN4 {s l : Nat} : ((4 : Int32) * zN s) + zN l = zN (4 * s + l) := by rw [show (4 : Int32) = zN 4 from rfl, zN_mul, zN_add]
theorem zN48 {s l : Nat} : ((48 : Int32) * zN s) + ((12 : Int32) * zN l) = zN (48 * s + 12 * l) := by rw [show (48 : Int32) = zN 48 from rfl, show (12 : Int32) = zN 12 from rfl, zN_mul, zN_mul, zN_add]
/-- keys of the rows are different -/
theorem okL.key_inj {R : List Row} (h : okL R) {i j : Nat} {r q : Row} (hi : R[i]? = some r) (hj : R[j]? = some q) (he : r.1 = q.1) : i = j := by
  obtain ⟨h1, e1⟩ := List.getElem?_eq_some_iff.mp hi
  obtain ⟨h2, e2⟩ := List.getElem?_eq_some_iff.mp hj
  have hp := List.pairwise_iff_getElem.mp h.2.1
  rcases Nat.lt_trichotomy i j with hlt | heq | hgt
  · have := hp i j h1 h2 hlt; rw [e1, e2] at this; omega
  · exact heq
  · have := hp j i h2 h1 hgt; rw [e1, e2] at this; omega
theorem fi_some {R : List Row} (h : okL R) {k : Int32} {i : Nat} {r : Row} (hr : R[i]? = some r) (hk : zN r.1 = k) : fi R k = some i := by
  obtain ⟨h1, e1⟩ := List.getElem?_eq_some_iff.mp hr
  unfold fi
  rw [List.findIdx?_eq_some_iff_getElem]
  refine ⟨h1, by simp [e1, hk], fun j hj => ?_⟩
  intro h9
  have h9 : zN R[j].1 = k := by simpa using h9
  have b1 := (h.1 R[j] (List.getElem_mem _)).1
  have b2 := (h.1 r (List.mem_of_getElem? hr)).1
  have : R[j].1 = r.1 := (zN_eq (by omega) (by omega)).mp (h9.trans hk.symm)
  have := h.key_inj (List.getElem?_eq_getElem (by omega)) hr this
  omega
theorem fi_none {R : List Row} {k : Int32} (h : ∀ (i : Nat) (r : Row), R[i]? = some r → ¬ zN r.1 = k) : fi R k = none := by
  unfold fi
  rw [List.findIdx?_eq_none_iff]
  intro x hx
  obtain ⟨j, hj⟩ := List.mem_iff_getElem?.mp hx
  simpa using h j x hj
theorem m_find_loop {s l : Nat} {M : sdM} {R : List Row} {k : Int32} {Q : Int32 → sdM → Prop} (hs : s < 17) (hl : l < 4) (h : RMl M s l R) (hok : okL R) (hq : Q (rowI (48 * s + 12 * l) (fi R k)) M) :
    ∀ (d i : Nat) (a : Int32), i + d = R.length → ((∀ (j : Nat) (r : Row), j < i → R[j]? = some r → ¬ zN r.1 = k) ∧ a = -1 ∨ ∃ j r, j < i ∧ R[j]? = some r ∧ zN r.1 = k ∧ a = zN (48 * s + 12 * l + j)) → h_O_find_6 Q (d + 1) M (zN s) (zN l) k a (zN i) := by
  have hlen := hok.2.2
  intro d
  induction d with
  | zero =>
    intro i a hi ha
    show vp_in _ 68 ∧ _
    rw [zN4, zN_nat (by omega), h.1]
    refine ⟨(zN_in (by omega)).mpr (by omega), fun _ => ?_, fun hn => (hn ((zN_le (by omega) (by omega)).mpr (by omega))).elim⟩
    rcases ha with ⟨h1, rfl⟩ | ⟨j, r, hj, hr, hk, rfl⟩
    · rw [fi_none (fun j r hr => h1 j r (by have := (List.getElem?_eq_some_iff.mp hr).1; omega) hr)] at hq
      exact hq
    · rw [fi_some hok hr hk] at hq
      exact hq
  | succ d ih =>
    intro i a hi ha
    have hil : i < R.length := by omega
    have hr : R[i]? = some R[i] := List.getElem?_eq_getElem hil
    have hrow := h.2 i _ hr
    show vp_in _ 68 ∧ _
    rw [zN4, zN48, zN_add, zN_nat (show 4 * s + l < _ by omega), zN_nat (show 48 * s + 12 * l + i < _ by omega), h.1, hrow.1]
    refine ⟨(zN_in (by omega)).mpr (by omega), fun hn => ?_, fun _ => ⟨(zN_in (by omega)).mpr (by omega), fun hne => ?_, fun he => ?_⟩⟩
    · rw [zN_le (by omega) (by omega)] at hn; omega
    · show h_O_find_6 Q (d + 1) M (zN s) (zN l) k a (zN i + 1)
      rw [show (1 : Int32) = zN 1 from rfl, zN_add]
      refine ih (i + 1) a (by omega) ?_
      rcases ha with ⟨h1, rfl⟩ | ⟨j, r, hj, hr9, hk, rfl⟩
      · refine Or.inl ⟨fun j r hj hr9 => ?_, rfl⟩
        by_cases hji : j = i
        · subst hji; rw [hr] at hr9; cases hr9; exact hne
        · exact h1 j r (by omega) hr9
      · exact Or.inr ⟨j, r, by omega, hr9, hk, rfl⟩
    · show h_O_find_6 Q (d + 1) M (zN s) (zN l) k (zN (48 * s + 12 * l + i)) (zN i + 1)
      rw [show (1 : Int32) = zN 1 from rfl, zN_add]
      exact ih (i + 1) _ (by omega) (Or.inr ⟨i, R[i], by omega, hr, he, rfl⟩)
theorem m_find {s l : Nat} {M : sdM} {R : List Row} {k : Int32} {Q : Int32 → sdM → Prop} (hs : s < 17) (hl : l < 4) (h : RMl M s l R) (hok : okL R) (hq : Q (rowI (48 * s + 12 * l) (fi R k)) M) : w_O_find M (zN s) (zN l) k Q :=
  ⟨R.length + 1, m_find_loop hs hl h hok hq R.length 0 _ (by omega) (Or.inl ⟨fun _ _ hj => by omega, rfl⟩)⟩
theorem RMl.found {M : sdM} {s l : Nat} {R : List Row} {k : Int32} (h : RMl M s l R) (hR : okL R) (hs : s < 17) (hl : l < 4) : isRowM M (rowI (48 * s + 12 * l) (fi R k)) (atR R (fi R k)) := by
  cases hf : fi R k with
  | none => exact Or.inl ⟨rfl, rfl⟩
  | some i =>
    have hi : i < R.length := by
      unfold fi at hf
      exact (List.findIdx?_eq_some_iff_getElem.mp hf).1
    have hr : R[i]? = some R[i] := List.getElem?_eq_getElem hi
    have := hR.2.2
    rw [show atR R (some i) = some R[i] from hr]
    exact Or.inr ⟨48 * s + 12 * l + i, R[i], by omega, rfl, rfl, h.2 i _ hr, hR.1 _ (List.getElem_mem _)⟩
/-- nothing changed but the sets' arrays of the model -/
def outM (M M' : sdM) : Prop := ∀ c, ¬ (129 ≤ c ∧ c ≤ 132) → M' c = M c
theorem outM.rf (M : sdM) : outM M M := fun _ _ => rfl
theorem outM.tr {M M' M'' : sdM} (h : outM M M') (h' : outM M' M'') : outM M M'' := fun c hc => (h' c hc).trans (h c hc)
/-- M' is M with the model's row a written over the row b -/
def MovedM (M M' : sdM) (a b : Nat) : Prop := outM M M' ∧ M' 129 = M 129 ∧ (∀ r, rowAtM M a r → rowAtM M' b r) ∧ (∀ c r, c ≠ b → rowAtM M c r → rowAtM M' c r)
theorem m_put {a b : Nat} {M : sdM} {Q : sdM → Prop} (ha : a < 816) (hb : b < 816) (hq : ∀ M', MovedM M M' a b → Q M') : w_O_put M (zN a) (zN b) Q := by
  refine ⟨(zN_in (by omega)).mpr ha, (zN_in (by omega)).mpr hb, fun M1 e1 => ⟨(zN_in (by omega)).mpr ha, (zN_in (by omega)).mpr hb, fun M2 e2 => ⟨5, ?_⟩⟩⟩
  rw [zN_nat (by omega), zN_nat (by omega)] at e1 e2
  refine ⟨fun h => absurd h (by decide), fun _ => ?_⟩
  rw [show (0 : Int32) = zN 0 from rfl, zN4, zN4, zN_nat (by omega), zN_nat (by omega)]
  refine ⟨(zN_in (by omega)).mpr (by omega), (zN_in (by omega)).mpr (by omega), fun M3 e3 => ?_⟩
  refine ⟨fun h => absurd h (by decide), fun _ => ?_⟩
  rw [show zN 0 + 1 = zN 1 from rfl, zN4, zN4, zN_nat (by omega), zN_nat (by omega)]
  refine ⟨(zN_in (by omega)).mpr (by omega), (zN_in (by omega)).mpr (by omega), fun M4 e4 => ?_⟩
  refine ⟨fun h => absurd h (by decide), fun _ => ?_⟩
  rw [show zN 1 + 1 = zN 2 from rfl, zN4, zN4, zN_nat (by omega), zN_nat (by omega)]
  refine ⟨(zN_in (by omega)).mpr (by omega), (zN_in (by omega)).mpr (by omega), fun M5 e5 => ?_⟩
  refine ⟨fun h => absurd h (by decide), fun _ => ?_⟩
  rw [show zN 2 + 1 = zN 3 from rfl, zN4, zN4, zN_nat (by omega), zN_nat (by omega)]
  refine ⟨(zN_in (by omega)).mpr (by omega), (zN_in (by omega)).mpr (by omega), fun M6 e6 => ?_⟩
  refine ⟨fun _ => hq M6 ?_, fun h => absurd (by decide) h⟩
  have o6 : ∀ c, c ≠ 132 → M6 c = M2 c := fun c hc => by rw [e6, sd_s_o hc, e5, sd_s_o hc, e4, sd_s_o hc, e3, sd_s_o hc]
  have v : ∀ j, (∀ f, f < 4 → j ≠ 4 * b + f) → M6 132 j = M 132 j := by
    intro j hj
    have := hj 0 (by omega); have := hj 1 (by omega); have := hj 2 (by omega); have := hj 3 (by omega)
    rw [e6, sd_s_ne (by omega), e5, sd_s_ne (by omega), e4, sd_s_ne (by omega), e3, sd_s_ne (by omega), e2, sd_s_o (by omega), e1, sd_s_o (by omega)]
  have z : M2 132 = M 132 := by rw [e2, sd_s_o (by omega), e1, sd_s_o (by omega)]
  refine ⟨fun c hc => ?_, ?_, fun r hr => ⟨?_, ?_, fun f hf hbit => ?_⟩, fun c r hc hr => ⟨?_, ?_, fun f hf hbit => ?_⟩⟩
  · rw [o6 c (by omega), e2, sd_s_o (by omega), e1, sd_s_o (by omega)]
  · rw [o6 _ (by omega), e2, sd_s_o (by omega), e1, sd_s_o (by omega)]
  · rw [o6 _ (by omega), e2, sd_s_o (by omega), e1, sd_s_self]; exact hr.1
  · rw [o6 _ (by omega), e2, sd_s_self, e1, sd_s_o (by omega)]; exact hr.2.1
  · by_cases hab : a = b
    · subst hab
      have : M6 132 (4 * a + f) = M 132 (4 * a + f) := by
        have : f = 0 ∨ f = 1 ∨ f = 2 ∨ f = 3 := by omega
        rcases this with rfl | rfl | rfl | rfl <;> simp [e6, e5, e4, e3, sd_s, va_up, upd, z]
      rw [this]; exact hr.2.2 f hf hbit
    · have : M6 132 (4 * b + f) = M 132 (4 * a + f) := by
        have hf' : f = 0 ∨ f = 1 ∨ f = 2 ∨ f = 3 := by omega
        rcases hf' with rfl | rfl | rfl | rfl
        · rw [e6, sd_s_ne (by omega), e5, sd_s_ne (by omega), e4, sd_s_ne (by omega), e3, sd_s_self, z]
        · rw [e6, sd_s_ne (by omega), e5, sd_s_ne (by omega), e4, sd_s_self, e3, sd_s_ne (by omega), z]
        · rw [e6, sd_s_ne (by omega), e5, sd_s_self, e4, sd_s_ne (by omega), e3, sd_s_ne (by omega), z]
        · rw [e6, sd_s_self, e5, sd_s_ne (by omega), e4, sd_s_ne (by omega), e3, sd_s_ne (by omega), z]
      rw [this]; exact hr.2.2 f hf hbit
  · rw [o6 _ (by omega), e2, sd_s_o (by omega), e1, sd_s_ne hc]; exact hr.1
  · rw [o6 _ (by omega), e2, sd_s_ne hc, e1, sd_s_o (by omega)]; exact hr.2.1
  · rw [v _ (fun g hg => by omega)]; exact hr.2.2 f hf hbit
/-- nothing changed but list l of the model's set s -/
def FrM (M M' : sdM) (s l : Nat) : Prop := outM M M' ∧ ∀ s' l' S, s' < 17 → l' < 4 → (s' ≠ s ∨ l' ≠ l) → S.length ≤ 12 → RMl M s' l' S → RMl M' s' l' S
theorem FrM.rf (M : sdM) (s l : Nat) : FrM M M s l := ⟨outM.rf _, fun _ _ _ _ _ _ _ h => h⟩
theorem FrM.tr {M M' M'' : sdM} {s l : Nat} (h : FrM M M' s l) (h' : FrM M' M'' s l) : FrM M M'' s l := ⟨h.1.tr h'.1, fun s' l' S a b c d e => h'.2 s' l' S a b c d (h.2 s' l' S a b c d e)⟩
theorem MovedM.fr {M M' : sdM} {s l a i : Nat} (h : MovedM M M' a (48 * s + 12 * l + i)) (hs : s < 17) (hl : l < 4) (hi : i < 12) : FrM M M' s l := by
  refine ⟨h.1, fun s' l' S hs' hl' hne hS hR => ⟨by rw [h.2.1]; exact hR.1, fun j r hr => h.2.2.2 _ r ?_ (hR.2 j r hr)⟩⟩
  have hj : j < S.length := (List.getElem?_eq_some_iff.mp hr).1
  omega
/-- nothing changed but the model's set s -/
def FrS (M M' : sdM) (s : Nat) : Prop := outM M M' ∧ ∀ s' B, s' < 17 → s' ≠ s → okS B → RM M s' B → RM M' s' B
theorem FrS.rf (M : sdM) (s : Nat) : FrS M M s := ⟨outM.rf _, fun _ _ _ _ _ h => h⟩
theorem FrS.tr {M M' M'' : sdM} {s : Nat} (h : FrS M M' s) (h' : FrS M' M'' s) : FrS M M'' s := ⟨h.1.tr h'.1, fun s' B a b c d => h'.2 s' B a b c (h.2 s' B a b c d)⟩
theorem FrM.S {M M' : sdM} {s l : Nat} (h : FrM M M' s l) : FrS M M' s := ⟨h.1, fun s' B a b c d l' hl' => h.2 s' l' _ a hl' (Or.inl b) (c l' hl').2.2 (d l' hl')⟩
theorem zN48a {s i : Nat} : ((48 : Int32) * zN s) + zN i = zN (48 * s + i) := by rw [show (48 : Int32) = zN 48 from rfl, zN_mul, zN_add]
theorem m_copy_rows {a b : Nat} {M0 : sdM} {Q : sdM → Prop} (hne : a ≠ b) (ha : a < 17) (hb : b < 17)
    (hq : ∀ M', outM M0 M' → M' 129 = M0 129 → (∀ j r, j < 48 → rowAtM M0 (48 * a + j) r → rowAtM M' (48 * b + j) r) → (∀ c r, (c < 48 * b ∨ 48 * b + 48 ≤ c) → rowAtM M0 c r → rowAtM M' c r) → Q M') :
    ∀ (d i : Nat) (M : sdM), i + d = 48 → outM M0 M → M 129 = M0 129 → (∀ j r, j < i → rowAtM M0 (48 * a + j) r → rowAtM M (48 * b + j) r) → (∀ c r, (c < 48 * b ∨ 48 * b + 48 ≤ c) → rowAtM M0 c r → rowAtM M c r) → h_O_copy_35 Q (d + 1) M (zN a) (zN b) (zN i) := by
  intro d
  induction d with
  | zero =>
    intro i M hi h1 h2 h3 h4
    have : i = 48 := by omega
    subst this
    exact ⟨fun _ => hq M h1 h2 h3 h4, fun h => (h (by decide)).elim⟩
  | succ d ih =>
    intro i M hi h1 h2 h3 h4
    refine ⟨fun h => ?_, fun _ => ?_⟩
    · rw [show (48 : Int32) = zN 48 from rfl, zN_le (by decide) (by omega)] at h; omega
    · rw [zN48a, zN48a]
      refine m_put (by omega) (by omega) (fun M' hm => ?_)
      rw [show (1 : Int32) = zN 1 from rfl, zN_add]
      refine ih (i + 1) M' (by omega) (h1.tr hm.1) (hm.2.1.trans h2) (fun j r hj hr => ?_) (fun c r hc hr => hm.2.2.2 c r (by omega) (h4 c r hc hr))
      by_cases hji : j = i
      · subst hji
        exact hm.2.2.1 r (h4 _ r (by omega) hr)
      · exact hm.2.2.2 _ r (by omega) (h3 j r (by omega) hr)
theorem m_copy {a b : Nat} {M : sdM} {A : ASet} {Q : sdM → Prop} (hne : a ≠ b) (ha : a < 17) (hb : b < 17) (h : RM M a A) (hA : okS A) (hq : ∀ M', FrS M M' b → RM M' b A → Q M') : w_O_copy M (zN a) (zN b) Q := by
  refine ⟨5, ?_⟩
  refine ⟨fun h => absurd h (by decide), fun _ => ?_⟩
  rw [show (0 : Int32) = zN 0 from rfl, zN4, zN4, zN_nat (by omega), zN_nat (by omega)]
  refine ⟨(zN_in (by omega)).mpr (by omega), (zN_in (by omega)).mpr (by omega), fun M1 e1 => ?_⟩
  refine ⟨fun h => absurd h (by decide), fun _ => ?_⟩
  rw [show zN 0 + 1 = zN 1 from rfl, zN4, zN4, zN_nat (by omega), zN_nat (by omega)]
  refine ⟨(zN_in (by omega)).mpr (by omega), (zN_in (by omega)).mpr (by omega), fun M2 e2 => ?_⟩
  refine ⟨fun h => absurd h (by decide), fun _ => ?_⟩
  rw [show zN 1 + 1 = zN 2 from rfl, zN4, zN4, zN_nat (by omega), zN_nat (by omega)]
  refine ⟨(zN_in (by omega)).mpr (by omega), (zN_in (by omega)).mpr (by omega), fun M3 e3 => ?_⟩
  refine ⟨fun h => absurd h (by decide), fun _ => ?_⟩
  rw [show zN 2 + 1 = zN 3 from rfl, zN4, zN4, zN_nat (by omega), zN_nat (by omega)]
  refine ⟨(zN_in (by omega)).mpr (by omega), (zN_in (by omega)).mpr (by omega), fun M4 e4 => ?_⟩
  refine ⟨fun _ => ⟨48 + 1, ?_⟩, fun h => absurd (by decide) h⟩
  have s4 : ∀ j, (∀ f, f < 4 → j ≠ 4 * b + f) → M4 129 j = M 129 j := by
    intro j hj
    have := hj 0 (by omega); have := hj 1 (by omega); have := hj 2 (by omega); have := hj 3 (by omega)
    rw [e4, sd_s_ne (by omega), e3, sd_s_ne (by omega), e2, sd_s_ne (by omega), e1, sd_s_ne (by omega)]
  have s5 : ∀ f, f < 4 → M4 129 (4 * b + f) = M 129 (4 * a + f) := by
    intro f hf
    have hf' : f = 0 ∨ f = 1 ∨ f = 2 ∨ f = 3 := by omega
    rcases hf' with rfl | rfl | rfl | rfl
    · rw [e4, sd_s_ne (by omega), e3, sd_s_ne (by omega), e2, sd_s_ne (by omega), e1, sd_s_self]
    · rw [e4, sd_s_ne (by omega), e3, sd_s_ne (by omega), e2, sd_s_self, e1, sd_s_ne (by omega)]
    · rw [e4, sd_s_ne (by omega), e3, sd_s_self, e2, sd_s_ne (by omega), e1, sd_s_ne (by omega)]
    · rw [e4, sd_s_self, e3, sd_s_ne (by omega), e2, sd_s_ne (by omega), e1, sd_s_ne (by omega)]
  have o4 : ∀ c, c ≠ 129 → M4 c = M c := fun c hc => by rw [e4, sd_s_o hc, e3, sd_s_o hc, e2, sd_s_o hc, e1, sd_s_o hc]
  have r4 : ∀ c r, rowAtM M c r → rowAtM M4 c r := fun c r hr => ⟨by rw [o4 _ (by omega)]; exact hr.1, by rw [o4 _ (by omega)]; exact hr.2.1, fun f hf hb => by rw [o4 _ (by omega)]; exact hr.2.2 f hf hb⟩
  refine m_copy_rows (M0 := M4) hne ha hb (fun M' h1 h2 h3 h4 => ?_) 48 0 M4 rfl (outM.rf _) rfl (fun j r hj => by omega) (fun _ _ _ h => h)
  refine hq M' ⟨fun c hc => (h1 c hc).trans (o4 c (by omega)), fun s' B hs' hne' hB hRB l hl => ⟨?_, fun i r hr => ?_⟩⟩ (fun l hl => ⟨?_, fun i r hr => ?_⟩)
  · rw [h2, s4 _ (fun f hf => by omega)]; exact (hRB l hl).1
  · have hi : i < (B l).length := (List.getElem?_eq_some_iff.mp hr).1
    have := (hB l hl).2.2
    exact h4 _ r (by omega) (r4 _ r ((hRB l hl).2 i r hr))
  · rw [h2, s5 l hl]; exact (h l hl).1
  · have hi : i < (A l).length := (List.getElem?_eq_some_iff.mp hr).1
    have := (hA l hl).2.2
    have h9 := (h l hl).2 i r hr
    rw [Nat.add_assoc] at h9 ⊢
    exact h3 _ r (by omega) (r4 _ r h9)
/-- the rows of list l of the model's set s, as far as g says -/
def rowsAreM (M : sdM) (s l : Nat) (g : Nat → Option Row) : Prop := ∀ i r, g i = some r → rowAtM M (48 * s + 12 * l + i) r
theorem m_remove_loop {s l i n : Nat} {M0 : sdM} {R : List Row} {Q : sdM → Prop} (hs : s < 17) (hl : l < 4) (hn : R.length = n) (hR : n ≤ 12) (hin : i < n)
    (hq : ∀ M', FrM M0 M' s l → RMl M' s l (R.eraseIdx i) → Q M') :
    ∀ (d t : Nat) (M : sdM), i + 1 + t + d = n → FrM M0 M s l → M 129 (4 * s + l) = zN (n - 1) → rowsAreM M s l (remF R i t) → h_O_remove_17 Q (d + 1) M (zN s) (zN l) (zN (48 * s + 12 * l + (i + t))) := by
  intro d
  induction d with
  | zero =>
    intro t M ht hfr hc hrow
    show vp_in _ 68 ∧ _
    rw [zN4, zN48, zN_nat (by omega), hc, zN_add]
    refine ⟨(zN_in (by omega)).mpr (by omega), fun _ => ?_, fun h => (h ((zN_le (by omega) (by omega)).mpr (by omega))).elim⟩
    refine hq M hfr ⟨by rw [hc, List.length_eraseIdx_of_lt (by omega), hn], fun j r hr => hrow j r ?_⟩
    rw [List.getElem?_eraseIdx] at hr
    unfold remF
    by_cases h1 : j < i
    · rw [if_pos h1] at hr ⊢; exact hr
    · rw [if_neg h1] at hr ⊢
      have hj : j + 1 < R.length := (List.getElem?_eq_some_iff.mp hr).1
      rw [if_pos (by omega)]
      exact hr
  | succ d ih =>
    intro t M ht hfr hc hrow
    show vp_in _ 68 ∧ _
    rw [zN4, zN48, zN_nat (by omega), hc, zN_add]
    refine ⟨(zN_in (by omega)).mpr (by omega), fun h => ?_, fun _ => ?_⟩
    · rw [zN_le (by omega) (by omega)] at h; omega
    · rw [show (1 : Int32) = zN 1 from rfl, zN_add]
      refine m_put (by omega) (by omega) (fun M' hm => ?_)
      rw [show 48 * s + 12 * l + (i + t) + 1 = 48 * s + 12 * l + (i + (t + 1)) by omega]
      refine ih (t + 1) M' (by omega) (hfr.tr (hm.fr hs hl (by omega))) (by rw [hm.2.1]; exact hc) (fun j r hj => ?_)
      by_cases hji : j = i + t
      · subst hji
        unfold remF at hj
        rw [if_neg (by omega), if_pos (by omega)] at hj
        refine hm.2.2.1 r ?_
        have := hrow (i + (t + 1)) r (by unfold remF; rw [if_neg (by omega), if_neg (by omega), ← hj]; congr 1)
        exact this
      · refine hm.2.2.2 _ r (by omega) (hrow j r ?_)
        unfold remF at hj ⊢
        by_cases h1 : j < i
        · rw [if_pos h1] at hj ⊢; exact hj
        · rw [if_neg h1] at hj ⊢
          by_cases h2 : j < i + t
          · rw [if_pos (by omega)] at hj; rw [if_pos h2]; exact hj
          · rw [if_neg (by omega)] at hj; rw [if_neg h2]; exact hj
theorem m_remove {s l i : Nat} {M : sdM} {R : List Row} {Q : sdM → Prop} (hs : s < 17) (hl : l < 4) (h : RMl M s l R) (hR : R.length ≤ 12) (hi : i < R.length) (hq : ∀ M', FrM M M' s l → RMl M' s l (R.eraseIdx i) → Q M') : w_O_remove M (zN s) (zN l) (zN (48 * s + 12 * l + i)) Q := by
  show vp_in _ 68 ∧ _
  rw [zN4, zN_nat (by omega), h.1, show (1 : Int32) = zN 1 from rfl, zN_sub (by omega)]
  refine ⟨(zN_in (by omega)).mpr (by omega), (zN_in (by omega)).mpr (by omega), fun M1 e1 => ⟨(R.length - (i + 1)) + 1, ?_⟩⟩
  have r1 : ∀ c r, rowAtM M c r → rowAtM M1 c r := fun c r hr => ⟨by rw [e1, sd_s_o (by omega)]; exact hr.1, by rw [e1, sd_s_o (by omega)]; exact hr.2.1, fun f hf hb => by rw [e1, sd_s_o (by omega)]; exact hr.2.2 f hf hb⟩
  refine m_remove_loop hs hl rfl hR hi hq _ 0 M1 (by omega) ⟨fun c hc => by rw [e1, sd_s_o (by omega)], fun s' l' S a b c d e => ⟨by rw [e1, sd_s_ne (by omega)]; exact e.1, fun j r hr => r1 _ r (e.2 j r hr)⟩⟩ (by rw [e1, sd_s_self]) (fun j r hj => r1 _ r (h.2 j r ?_))
  unfold remF at hj
  split at hj
  · exact hj
  · split at hj
    · omega
    · exact hj
theorem m_insTail {s l x n k : Nat} {M0 M : sdM} {R : List Row} {Q : Int32 → sdM → Prop} (hs : s < 17) (hl : l < 4) (hn : R.length = n) (hR : n < 12) (hx : x ≤ n) (hc : M 129 (4 * s + l) = zN n) (hK : FrM M0 M s l) (hrow : rowsAreM M s l (insF R x))
    (hq : ∀ M', FrM M0 M' s l → RMl M' s l (R.insertIdx x (newR k)) → Q (zN (48 * s + 12 * l + x)) M') : k_O_insert_62 Q M (zN s) (zN l) (zN k) (zN (48 * s + 12 * l + x)) := by
  show vp_in _ 816 ∧ _
  rw [zN4, zN_nat (by omega), zN_nat (by omega)]
  refine ⟨(zN_in (by omega)).mpr (by omega), fun M1 e1 => ⟨(zN_in (by omega)).mpr (by omega), fun M2 e2 => ⟨(zN_in (by omega)).mpr (by omega), (zN_in (by omega)).mpr (by omega), fun M3 e3 => ?_⟩⟩⟩
  have q2 : M2 129 = M 129 := by rw [e2, sd_s_o (by omega), e1, sd_s_o (by omega)]
  rw [q2, hc, show (1 : Int32) = zN 1 from rfl, zN_add] at e3
  have u5 : ∀ c r, c ≠ 48 * s + 12 * l + x → rowAtM M c r → rowAtM M3 c r := fun c r hne hr => ⟨by rw [e3, sd_s_o (by omega), e2, sd_s_o (by omega), e1, sd_s_ne hne]; exact hr.1, by rw [e3, sd_s_o (by omega), e2, sd_s_ne hne, e1, sd_s_o (by omega)]; exact hr.2.1, fun f hf hb => by rw [e3, sd_s_o (by omega), e2, sd_s_o (by omega), e1, sd_s_o (by omega)]; exact hr.2.2 f hf hb⟩
  refine hq M3 (hK.tr ⟨fun c hc => by rw [e3, sd_s_o (by omega), e2, sd_s_o (by omega), e1, sd_s_o (by omega)], fun s' l' S a b c d e => ⟨by rw [e3, sd_s_ne (by omega), q2]; exact e.1, fun j r hr => ?_⟩⟩) ⟨?_, fun j r hj => ?_⟩
  · have hjl : j < S.length := (List.getElem?_eq_some_iff.mp hr).1
    exact u5 _ r (by omega) (e.2 j r hr)
  · rw [e3, sd_s_self, List.length_insertIdx_of_le_length (by omega), hn]
  · rw [List.getElem?_insertIdx] at hj
    by_cases h1 : j < x
    · rw [if_pos h1] at hj
      refine u5 _ r (by omega) (hrow j r ?_)
      unfold insF; rw [if_pos h1]; exact hj
    · rw [if_neg h1] at hj
      by_cases h2 : j = x
      · subst h2
        rw [if_pos rfl] at hj
        have : r = newR k := by
          split at hj
          · exact (Option.some.inj hj).symm
          · cases hj
        rw [this]
        exact ⟨by rw [e3, sd_s_o (by omega), e2, sd_s_o (by omega), e1, sd_s_self]; rfl, by rw [e3, sd_s_o (by omega), e2, sd_s_self]; rfl, fun f hf hb => by simp [newR] at hb⟩
      · rw [if_neg h2] at hj
        refine u5 _ r (by omega) (hrow j r ?_)
        unfold insF; rw [if_neg h1, if_neg h2]; exact hj
theorem m_insert_loop {s l n k : Nat} {M0 : sdM} {R : List Row} {Q : Int32 → sdM → Prop} (hs : s < 17) (hl : l < 4) (hok : okL R) (hn : R.length = n) (hR : n < 12) (hk : k ≤ 100)
    (hq : ∀ M', FrM M0 M' s l → RMl M' s l (insL R k) → Q (zN (48 * s + 12 * l + insP R k n)) M') :
    ∀ (x : Nat) (M : sdM), x ≤ n → insP R k n = insP R k x → M 129 (4 * s + l) = zN n → FrM M0 M s l → rowsAreM M s l (insF R x) → h_O_insert_26 Q (x + 1) M (zN s) (zN l) (zN k) (zN (48 * s + 12 * l)) (zN (48 * s + 12 * l + x)) := by
  intro x
  induction x with
  | zero =>
    intro M hx hp hc hK hrow
    refine ⟨fun _ => ?_, fun h => (h ((zN_le (by omega) (by omega)).mpr (by omega))).elim⟩
    refine m_insTail hs hl hn hR (by omega) hc hK hrow (fun M' a1 a2 => ?_)
    have h0 : insP R k n = 0 := hp
    have := hq M' a1 (by unfold insL; rw [hn, h0]; exact a2)
    rw [h0] at this
    exact this
  | succ x ih =>
    intro M hx hp hc hK hrow
    have hxl : x < R.length := by omega
    have hr : R[x]? = some R[x] := List.getElem?_eq_getElem hxl
    have hkr := (hok.1 R[x] (List.getElem_mem _)).1
    have hrx := hrow x R[x] (by unfold insF; rw [if_pos (by omega)]; exact hr)
    refine ⟨fun h => ?_, fun _ => ?_⟩
    · rw [zN_le (by omega) (by omega)] at h; omega
    · rw [show (1 : Int32) = zN 1 from rfl, zN_sub (by omega), show 48 * s + 12 * l + (x + 1) - 1 = 48 * s + 12 * l + x by omega]
      refine ⟨(zN_in (by omega)).mpr (by omega), ?_⟩
      rw [zN_nat (by omega), hrx.1, zN_le (by omega) (by omega)]
      refine ⟨fun hle => ?_, fun hgt => ?_⟩
      · refine m_insTail hs hl hn hR (by omega) hc hK hrow (fun M' a1 a2 => ?_)
        have h0 : insP R k n = x + 1 := by rw [hp]; unfold insP; rw [hr]; simp [hle]
        have := hq M' a1 (by unfold insL; rw [hn, h0]; exact a2)
        rw [h0] at this
        exact this
      · refine m_put (by omega) (by omega) (fun M' hm => ?_)
        have e9 : zN (48 * s + 12 * l + (x + 1)) + -zN 1 = zN (48 * s + 12 * l + x) := by
          rw [← Int32.sub_eq_add_neg, zN_sub (by omega)]
          rfl
        rw [e9]
        refine ih M' (by omega) ?_ (by rw [hm.2.1]; exact hc) (hK.tr (hm.fr hs hl (by omega))) (fun j r hj => ?_)
        · rw [hp]
          show insP R k (x + 1) = _
          unfold insP
          rw [hr]
          simp only [hgt, if_false]
          cases x <;> rfl
        · by_cases h1 : j = x + 1
          · subst h1
            unfold insF at hj
            rw [if_neg (by omega), if_neg (by omega), show x + 1 - 1 = x by omega, hr] at hj
            cases hj
            exact hm.2.2.1 _ hrx
          · refine hm.2.2.2 _ r (by omega) (hrow j r ?_)
            unfold insF at hj ⊢
            by_cases h2 : j < x
            · rw [if_pos h2] at hj; rw [if_pos (by omega)]; exact hj
            · rw [if_neg h2] at hj
              by_cases h3 : j = x
              · rw [if_pos h3] at hj; cases hj
              · rw [if_neg h3] at hj; rw [if_neg (by omega), if_neg h1]; exact hj
theorem m_insert {s l k : Nat} {M : sdM} {R : List Row} {Q : Int32 → sdM → Prop} (hs : s < 17) (hl : l < 4) (h : RMl M s l R) (hok : okL R) (hR : R.length < 12) (hk : k ≤ 100) (hq : ∀ M', FrM M M' s l → RMl M' s l (insL R k) → Q (zN (48 * s + 12 * l + insP R k R.length)) M') : w_O_insert M (zN s) (zN l) (zN k) Q := by
  show vp_in _ 68 ∧ _
  rw [zN4, zN48, zN_nat (by omega), h.1, zN_add]
  refine ⟨(zN_in (by omega)).mpr (by omega), R.length + 1, ?_⟩
  refine m_insert_loop hs hl hok rfl hR hk hq R.length M (by omega) rfl h.1 (FrM.rf _ _ _) (fun j r hj => h.2 j r ?_)
  unfold insF at hj
  split at hj
  · exact hj
  · split at hj
    · cases hj
    · have := (List.getElem?_eq_some_iff.mp hj).1
      omega
theorem RMl.row {M : sdM} {s l i : Nat} {R : List Row} {r : Row} (h : RMl M s l R) (hR : okL R) (hs : s < 17) (hl : l < 4) (hr : R[i]? = some r) : isRowM M (zN (48 * s + 12 * l + i)) (some r) := by
  have hi : i < R.length := (List.getElem?_eq_some_iff.mp hr).1
  exact Or.inr ⟨48 * s + 12 * l + i, r, by have := hR.2.2; omega, rfl, rfl, h.2 i r hr, hR.1 r (List.mem_of_getElem? hr)⟩
theorem m_same_0 {s t l : Nat} {M : sdM} {R : List Row} {Q : Int32 → sdM → Prop} {k5 : sdM → Int32 → Int32 → Int32 → Int32 → Prop} (hs : s < 17) (hl : l < 4) (h : RMl M s l R) (hR : okL R) (i : Nat) (hi : i < 2147483648) (n : Nat) (hq : k5 M (zN s) (zN t) 0 (zN (l + 1))) : h_O_same_49 Q k5 (n + 1) M (zN s) (zN t) 0 (zN l) (zN i) := by
  show vp_in _ 68 ∧ _
  rw [zN4]
  refine ⟨(zN_in (by omega)).mpr (by omega), fun _ => ?_, fun _ => ⟨fun _ => ?_, fun h => (h rfl).elim⟩⟩
  · show k5 M _ _ _ (zN l + zN 1); rw [zN_add]; exact hq
  · show k5 M _ _ _ (zN l + zN 1); rw [zN_add]; exact hq
theorem m_same_rows {s t l : Nat} {M : sdM} {R S : List Row} {Q : Int32 → sdM → Prop} {k5 : sdM → Int32 → Int32 → Int32 → Int32 → Prop} (hs : s < 17) (ht : t < 17) (hl : l < 4) (h : RMl M s l R) (h2 : RMl M t l S) (hR : okL R) (hS : okL S) (he : R.length = S.length) : ∀ (d i : Nat), i + d = R.length → k5 M (zN s) (zN t) (bI (allN (sameAt R S) d i)) (zN (l + 1)) → h_O_same_49 Q k5 (d + 1) M (zN s) (zN t) 1 (zN l) (zN i) := by
  have hlen := hR.2.2
  intro d
  induction d with
  | zero =>
    intro i hi hq
    show vp_in _ 68 ∧ _
    rw [zN4, zN_nat (by omega), h.1]
    refine ⟨(zN_in (by omega)).mpr (by omega), fun _ => ?_, fun hn => (hn ((zN_le (by omega) (by omega)).mpr (by omega))).elim⟩
    show k5 M _ _ _ (zN l + zN 1); rw [zN_add]; exact hq
  | succ d ih =>
    intro i hi hq
    have hir : R[i]? = some R[i] := List.getElem?_eq_getElem (by omega)
    have his : S[i]? = some S[i] := List.getElem?_eq_getElem (by omega)
    have r1 := h.2 i _ hir
    have r2 := h2.2 i _ his
    have k1 := (hR.1 R[i] (List.getElem_mem _)).1
    have k2 := (hS.1 S[i] (List.getElem_mem _)).1
    have hz : ∀ n, k5 M (zN s) (zN t) 0 (zN (l + 1)) → h_O_same_49 Q k5 (n + 1) M (zN s) (zN t) 0 (zN l) (zN i + 1) := by
      intro n hk
      rw [show (1 : Int32) = zN 1 from rfl, zN_add]
      exact m_same_0 hs hl h hR (i + 1) (by omega) n hk
    show vp_in _ 68 ∧ _
    rw [zN4, zN48, zN48, zN_add, zN_add, zN_nat (by omega), zN_nat (by omega), zN_nat (by omega), h.1, r1.1, r2.1, zN_eq (by omega) (by omega)]
    refine ⟨(zN_in (by omega)).mpr (by omega), fun hn => ?_, fun _ => ⟨fun h => absurd h (by decide), fun _ => ⟨(zN_in (by omega)).mpr (by omega), (zN_in (by omega)).mpr (by omega), fun hk => ?_, fun hk => ?_⟩⟩⟩
    · rw [zN_le (by omega) (by omega)] at hn; omega
    · have : sameAt R S i = false := by simp [sameAt, hir, his, hk]
      rw [allN, this] at hq
      exact hz d hq
    · refine m_sameEntry (h.row hR hs hl hir) (h2.row hS ht hl his) ⟨fun g => ?_, fun g => ?_⟩
      · have : sameAt R S i = false := by simp [sameAt, hir, his, bI_0.mp g]
        rw [allN, this] at hq
        exact hz d hq
      · have : sameAt R S i = true := by simp [sameAt, hir, his, hk, bI_1.mp g]
        rw [allN, this] at hq
        show h_O_same_49 Q k5 (d + 1) M (zN s) (zN t) 1 (zN l) (zN i + 1)
        rw [show zN i + 1 = zN (i + 1) from zN_add i 1]
        exact ih (i + 1) (by omega) hq
theorem m_same_lists {s t : Nat} {M : sdM} {A B : ASet} {Q : Int32 → sdM → Prop} (hs : s < 17) (ht : t < 17) (h : RM M s A) (h2 : RM M t B) (hA : okS A) (hB : okS B) : ∀ (d l : Nat) (b : Bool), l + d = 4 → Q (bI (b && allN (fun l => sameLi (A l) (B l)) d l)) M → h_O_same_5 Q (d + 1) M (zN s) (zN t) (bI b) (zN l) := by
  intro d
  induction d with
  | zero =>
    intro l b hl hq
    have : l = 4 := by omega
    subst this
    refine ⟨fun _ => ⟨bI_B _, ?_⟩, fun h => (h (by decide)).elim⟩
    rw [allN, Bool.and_true] at hq
    exact hq
  | succ d ih =>
    intro l b hl hq
    have l1 := (hA l (by omega)).2.2
    have l2 := (hB l (by omega)).2.2
    have no : allN (fun l => sameLi (A l) (B l)) (d + 1) l = false ∨ b = false → k_O_same_44 Q (fun M x1 x2 x3 x4 => h_O_same_5 Q (d + 1) M x1 x2 x3 x4) M (zN s) (zN t) (zN l) := by
      intro hb
      refine ⟨1, m_same_0 hs (by omega) (h l (by omega)) (hA l (by omega)) 0 (by omega) 0 ?_⟩
      refine ih (l + 1) false (by omega) ?_
      have : (b && allN (fun l => sameLi (A l) (B l)) (d + 1) l) = false := by
        rcases hb with hb | hb
        · rw [hb]; simp
        · rw [hb]; rfl
      rw [this] at hq
      exact hq
    refine ⟨fun h9 => ?_, fun _ => ⟨fun hb => no (Or.inr (bI_0.mp hb)), fun hb => ?_⟩⟩
    · rw [show (4 : Int32) = zN 4 from rfl, zN_le (by decide) (by omega)] at h9; omega
    · have hb := bI_1.mp hb
      subst hb
      rw [zN4, zN4, zN_nat (by omega), zN_nat (by omega), (h l (by omega)).1, (h2 l (by omega)).1, zN_eq (by omega) (by omega)]
      refine ⟨(zN_in (by omega)).mpr (by omega), (zN_in (by omega)).mpr (by omega), fun hne => no (Or.inl ?_), fun he => ⟨(A l).length + 1, ?_⟩⟩
      · have : sameLi (A l) (B l) = false := by simp [sameLi, hne]
        rw [allN, this]; rfl
      · refine m_same_rows hs ht (by omega) (h l (by omega)) (h2 l (by omega)) (hA l (by omega)) (hB l (by omega)) he _ 0 (by omega) ?_
        refine ih (l + 1) _ (by omega) ?_
        have e9 : sameLi (A l) (B l) = allN (sameAt (A l) (B l)) (A l).length 0 := by simp [sameLi, he]
        rw [allN, Bool.true_and, e9] at hq
        exact hq
theorem m_same {s t : Nat} {M : sdM} {A B : ASet} {Q : Int32 → sdM → Prop} (hs : s < 17) (ht : t < 17) (h : RM M s A) (h2 : RM M t B) (hA : okS A) (hB : okS B) (hq : Q (bI (sameS A B)) M) : w_O_same M (zN s) (zN t) Q :=
  ⟨4 + 1, m_same_lists hs ht h h2 hA hB 4 0 true rfl (by rw [Bool.true_and]; exact hq)⟩
theorem m_isSomething {l f : Nat} {M : sdM} {p : Int32} {x : Option Row} {Q : Int32 → sdM → Prop} {hst : Bool} (hx : isRowM M p x) (hl : l < 4) (hf : f < 4) (hc : M 122 (4 * l + f) = bI hst) (hq : Q (bI (lvB x f || hst)) M) : w_O_isSomething M p (zN l) (zN f) Q := by
  refine m_isSet hx hf ⟨fun h => ?_, fun h => ?_⟩
  · rw [bI_1.mp h] at hq
    exact ⟨Or.inr rfl, hq⟩
  · rw [bI_0.mp h] at hq
    rw [zN4, zN_nat (by omega), hc]
    refine ⟨(zN_in (by omega)).mpr (by omega), fun g => ?_, fun g => ?_⟩
    · rw [bI_0.mp g] at hq; exact ⟨Or.inl rfl, hq⟩
    · rw [bI_1.mp g] at hq; exact ⟨Or.inr rfl, hq⟩
theorem m_valueOf {l f : Nat} {M : sdM} {p : Int32} {x : Option Row} {Q : Int32 → sdM → Prop} {sv : Int32} (hx : isRowM M p x) (hl : l < 4) (hf : f < 4) (hc : M 123 (4 * l + f) = sv) (hq : Q (if lvB x f then lvV x f else sv) M) : w_O_valueOf M p (zN l) (zN f) Q := by
  refine m_isSet hx hf ⟨fun h => ?_, fun h => ?_⟩
  · rw [bI_0.mp h] at hq
    rw [zN4, zN_nat (by omega), hc]
    exact ⟨(zN_in (by omega)).mpr (by omega), hq⟩
  · have g1 := bI_1.mp h
    obtain ⟨v1, v2⟩ := m_value hx hf g1
    rw [g1, if_pos rfl, ← v2] at hq
    exact ⟨v1, hq⟩
/-- a leaf of the schema: reference, low, high, flags, has a standard, the standard -/
abbrev Lf : Type := Bool × Int32 × Int32 × Nat × Bool × Int32
def lfR (x : Lf) : Bool := x.1
def lfLo (x : Lf) : Int32 := x.2.1
def lfHi (x : Lf) : Int32 := x.2.2.1
def lfFl (x : Lf) : Nat := x.2.2.2.1
def lfHs (x : Lf) : Bool := x.2.2.2.2.1
def lfSv (x : Lf) : Int32 := x.2.2.2.2.2
/-- a rule: list, a, value, b, there -/
abbrev Ru : Type := Nat × Nat × Int32 × Nat × Bool
def ruL (x : Ru) : Nat := x.1
def ruA (x : Ru) : Nat := x.2.1
def ruV (x : Ru) : Int32 := x.2.2.1
def ruB (x : Ru) : Nat := x.2.2.2.1
def ruT (x : Ru) : Bool := x.2.2.2.2
/-- a schema: number of lists, leaves of each, the leaves by 4 l + f, number of rules, the rules -/
abbrev Sch : Type := Nat × (Nat → Nat) × (Nat → Lf) × Nat × (Nat → Ru)
def nlS (S : Sch) : Nat := S.1
def lvS (S : Sch) : Nat → Nat := S.2.1
def lfS (S : Sch) : Nat → Lf := S.2.2.1
def nrS (S : Sch) : Nat := S.2.2.2.1
def ruS (S : Sch) : Nat → Ru := S.2.2.2.2
def leafC (M : sdM) (c : Nat) (x : Lf) : Prop := M c 0 = bI (lfR x) ∧ M c 1 = lfLo x ∧ M c 2 = lfHi x ∧ M c 3 = bI ((lfFl x).testBit 0) ∧ M c 4 = bI ((lfFl x).testBit 1) ∧ M c 5 = bI (lfHs x) ∧ M c 6 = lfSv x
def ruleC (M : sdM) (c : Nat) (x : Ru) : Prop := M c 0 = zN (ruL x) ∧ M c 1 = zN (ruA x) ∧ M c 2 = ruV x ∧ M c 3 = zN (ruB x) ∧ M c 4 = bI (ruT x)
def leafM (M : sdM) (i : Nat) (x : Lf) : Prop := M 118 i = bI (lfR x) ∧ M 119 i = lfLo x ∧ M 120 i = lfHi x ∧ M 121 i = zN (lfFl x) ∧ M 122 i = bI (lfHs x) ∧ M 123 i = lfSv x
def ruleM (M : sdM) (i : Nat) (x : Ru) : Prop := M 124 i = zN (ruL x) ∧ M 125 i = zN (ruA x) ∧ M 126 i = ruV x ∧ M 127 i = zN (ruB x) ∧ M 128 i = bI (ruT x)
def SCC (M : sdM) (S : Sch) : Prop := M 1 1 = zN (nlS S) ∧ (∀ l, l < 4 → M 2 l = zN (lvS S l)) ∧ (∀ i, i < 16 → leafC M (5 + i) (lfS S i)) ∧ M 1 4 = zN (nrS S) ∧ ∀ r, r < 4 → ruleC M (21 + r) (ruS S r)
def SCM (M : sdM) (S : Sch) : Prop := M 116 2 = zN (nlS S) ∧ (∀ l, l < 4 → M 117 l = zN (lvS S l)) ∧ (∀ i, i < 16 → leafM M i (lfS S i)) ∧ M 116 10 = zN (nrS S) ∧ ∀ r, r < 4 → ruleM M r (ruS S r)
def okF (x : Lf) : Prop := lfFl x < 4 ∧ (lfR x = true → lfHs x = false ∧ ∃ w, w < 4 ∧ lfLo x = zN w)
def okSch (S : Sch) : Prop := (1 ≤ nlS S ∧ nlS S ≤ 4) ∧ (∀ l, lvS S l ≤ 4) ∧ (∀ i, okF (lfS S i)) ∧ nrS S ≤ 4 ∧ (∀ r, ruL (ruS S r) < 4 ∧ ruA (ruS S r) < 4 ∧ ruB (ruS S r) < 4) ∧ (∀ l f, l < 4 → f < 4 → lvS S l ≤ f → lfHs (lfS S (4 * l + f)) = false)
/-- the first of f, f + 1, .. (d of them) where p holds -/
def fstN (p : Nat → Bool) : Nat → Nat → Option Nat
  | 0, _ => none
  | d + 1, f => if p f then some f else fstN p d (f + 1)
def anyN (p : Nat → Bool) : Nat → Nat → Bool
  | 0, _ => false
  | d + 1, f => p f || anyN p d (f + 1)
/-- the leaf f of the row x of list l is nothing -/
def nothB (S : Sch) (l : Nat) (x : Option Row) (f : Nat) : Bool := !lvB x f && !lfHs (lfS S (4 * l + f))
def whI (S : Sch) (l : Nat) (x : Option Row) (f : Nat) : Int32 := if lvB x f then lvV x f else lfSv (lfS S (4 * l + f))
def sameV (S : Sch) (R : List Row) (l i f j : Nat) : Bool := !nothB S l R[j]? f && whI S l R[j]? f == whI S l R[i]? f
def twice (S : Sch) (R : List Row) (l i f : Nat) : Bool := !nothB S l R[i]? f && anyN (sameV S R l i f) i 0
def wrg1 (S : Sch) (A : ASet) (l i f : Nat) : Bool := (lfFl (lfS S (4 * l + f))).testBit 0 && nothB S l (A l)[i]? f
def wrg2 (S : Sch) (A : ASet) (l i f : Nat) : Bool := lfR (lfS S (4 * l + f)) && (lvB (A l)[i]? f && (fi (A (lfLo (lfS S (4 * l + f))).toNatClampNeg) (lvV (A l)[i]? f)).isNone)
def wrg3 (S : Sch) (A : ASet) (l i f : Nat) : Bool := (lfFl (lfS S (4 * l + f))).testBit 1 && twice S (A l) l i f
def brk (S : Sch) (q : Ru) (x : Option Row) : Bool := !nothB S (ruL q) x (ruA q) && (whI S (ruL q) x (ruA q) == ruV q && (nothB S (ruL q) x (ruB q) == ruT q))
def wrg4 (S : Sch) (A : ASet) (l i r : Nat) : Bool := ruL (ruS S r) == l && brk S (ruS S r) (A l)[i]?
abbrev Flt : Type := Int32 × Int32 × Int32 × Int32
/-- what is wrong with the i-th row of list l: the kind, and the leaf or rule -/
def wrgE (S : Sch) (A : ASet) (l i : Nat) : Option (Nat × Nat) := match fstN (wrg1 S A l i) (lvS S l) 0 with
  | some f => some (1, f)
  | none => match fstN (wrg2 S A l i) (lvS S l) 0 with
    | some f => some (2, f)
    | none => match fstN (wrg3 S A l i) (lvS S l) 0 with
      | some f => some (3, f)
      | none => match fstN (wrg4 S A l i) (nrS S) 0 with
        | some r => some (4, r)
        | none => none
def keyAt (R : List Row) (i : Nat) : Int32 := match R[i]? with
  | some r => zN r.1
  | none => 0
def wrgL (S : Sch) (A : ASet) (l : Nat) : Nat → Nat → Option Flt
  | 0, _ => none
  | d + 1, i => match wrgE S A l i with
    | some w => some (zN w.1, zN l, keyAt (A l) i, zN w.2)
    | none => wrgL S A l d (i + 1)
def wrgS (S : Sch) (A : ASet) : Nat → Nat → Option Flt
  | 0, _ => none
  | d + 1, l => match wrgL S A l (A l).length 0 with
    | some w => some w
    | none => wrgS S A d (l + 1)
def faultS (S : Sch) (A : ASet) : Option Flt := match fstN (fun l => decide (6 < (A l).length)) (nlS S) 0 with
  | some l => some (5, zN l, -1, -1)
  | none => wrgS S A (nlS S) 0
def noted (M : sdM) (o : Nat) (w : Flt) : sdM := sd_s (sd_s (sd_s (sd_s M o 0 w.1) o 1 w.2.1) o 2 w.2.2.1) o 3 w.2.2.2
theorem p_note {o : Nat} {M : sdM} {a b c d : Int32} {Q : sdM → Prop} (hq : Q (noted M o (a, b, c, d))) : w_T_note o M a b c d Q := by
  intro M1 e1 M2 e2 M3 e3 M4 e4
  rw [e4, e3, e2, e1]; exact hq
theorem p_leafAt {l f : Nat} {M : sdM} {Q : Nat → sdM → Prop} (hl : l < 4) (hf : f < 4) (hq : Q (5 + (4 * l + f)) M) : w_C_leafAt M (zN l) (zN f) Q := by
  unfold w_C_leafAt
  rw [show (4 : Int32) = zN 4 from rfl, zN_mul, zN_add, zN_nat (by omega), show l * 4 + f = 4 * l + f by omega]
  exact ⟨(zN_in (by omega)).mpr (by omega), hq⟩
theorem p_Knothing {o se tr l f : Nat} {M : sdM} {S : Sch} {p : Int32} {x : Option Row} {Q : Int32 → sdM → Prop} (hS : SCC M S) (hl : l < 4) (hf : f < 4) (hx : isRow M se p x) (hq : Q (bI (nothB S l x f)) M) : w_K_isNothing o se tr M (zN l) p (zN f) Q :=
  p_leafAt hl hf (p_isNothing hx hf (hS.2.2.1 (4 * l + f) (by omega)).2.2.2.2.2.1 ⟨bI_B _, hq⟩)
theorem p_Kwhat {o se tr l f : Nat} {M : sdM} {S : Sch} {p : Int32} {x : Option Row} {Q : Int32 → sdM → Prop} (hS : SCC M S) (hl : l < 4) (hf : f < 4) (hx : isRow M se p x) (hq : Q (whI S l x f) M) : w_K_whatIs o se tr M (zN l) p (zN f) Q :=
  p_leafAt hl hf (p_whatIs hx hf (hS.2.2.1 (4 * l + f) (by omega)).2.2.2.2.2.2 hq)
theorem p_crowded {o se tr : Nat} {M : sdM} {S : Sch} {A : ASet} {Q : Int32 → sdM → Prop} (hS : SCC M S) (hk : okSch S) (hA : RC M se A) (ho : okS A) : ∀ (d l : Nat), l + d = nlS S → (fstN (fun l => decide (6 < (A l).length)) d l = none → Q 0 M) → (∀ l', fstN (fun l => decide (6 < (A l).length)) d l = some l' → Q 1 (noted M tr (5, zN l', -1, -1))) → h_K_isCrowded_2 o se tr Q (d + 1) M (zN l) := by
  have hn := hk.1.2
  intro d
  induction d with
  | zero =>
    intro l hl h0 h1
    show (M 1 1 ≤ _ → _) ∧ _
    rw [hS.1]
    exact ⟨fun _ => ⟨Or.inl rfl, h0 rfl⟩, fun h => (h ((zN_le (by omega) (by omega)).mpr (by omega))).elim⟩
  | succ d ih =>
    intro l hl h0 h1
    have hlen := (ho l (by omega)).2.2
    show (M 1 1 ≤ _ → _) ∧ _
    rw [hS.1, zN_nat (by omega), (hA l (by omega)).1, show (6 : Int32) = zN 6 from rfl, zN_le (by omega) (by omega), zN_le (by omega) (by omega)]
    refine ⟨fun h => by omega, fun _ => ⟨(zN_in (by omega)).mpr (by omega), fun h => ?_, fun h => ?_⟩⟩
    · rw [show zN l + 1 = zN (l + 1) from zN_add l 1]
      refine ih (l + 1) (by omega) (fun g => h0 ?_) (fun l' g => h1 l' ?_)
      · simp only [fstN]; rw [if_neg (by simp; omega)]; exact g
      · simp only [fstN]; rw [if_neg (by simp; omega)]; exact g
    · refine p_note ⟨Or.inr rfl, h1 l ?_⟩
      simp only [fstN]; rw [if_pos (by simp; omega)]
theorem p_lacks {o se tr l i : Nat} {M : sdM} {S : Sch} {A : ASet} {r : Row} {Q : Int32 → sdM → Prop} (hS : SCC M S) (hk : okSch S) (hA : RC M se A) (ho : okS A) (hl : l < 4) (hr : (A l)[i]? = some r) : ∀ (d f : Nat), f + d = lvS S l → (fstN (wrg1 S A l i) d f = none → Q 0 M) → (∀ f', fstN (wrg1 S A l i) d f = some f' → Q 1 (noted M tr (1, zN l, keyAt (A l) i, zN f'))) → h_K_lacksLeaf_2 o se tr Q (d + 1) M (zN l) (zN (12 * l + i)) (zN f) := by
  have hn := hk.2.1 l
  have hi : i < (A l).length := (List.getElem?_eq_some_iff.mp hr).1
  have hlen := (ho l hl).2.2
  have hx := (hA l hl).row (ho l hl) hl hr
  have hrow := (hA l hl).2 i r hr
  intro d
  induction d with
  | zero =>
    intro f hf h0 h1
    show vp_in _ 4 ∧ _
    rw [zN_nat (by omega), hS.2.1 l hl]
    exact ⟨(zN_in (by omega)).mpr hl, fun _ => ⟨Or.inl rfl, h0 rfl⟩, fun h => (h ((zN_le (by omega) (by omega)).mpr (by omega))).elim⟩
  | succ d ih =>
    intro f hf h0 h1
    show vp_in _ 4 ∧ _
    rw [zN_nat (show l < _ by omega), hS.2.1 l hl, zN_le (by omega) (by omega)]
    refine ⟨(zN_in (by omega)).mpr hl, fun h => by omega, fun _ => p_leafAt hl (by omega) ?_⟩
    have hlf := hS.2.2.1 (4 * l + f) (by omega)
    have skip : wrg1 S A l i f = false → h_K_lacksLeaf_2 o se tr Q (d + 1) M (zN l) (zN (12 * l + i)) (zN f + 1) := by
      intro hw
      rw [show zN f + 1 = zN (f + 1) from zN_add f 1]
      refine ih (f + 1) (by omega) (fun g => h0 ?_) (fun f' g => h1 f' ?_)
      · simp only [fstN]; rw [hw]; exact g
      · simp only [fstN]; rw [hw]; exact g
    rw [hlf.2.2.2.1]
    refine ⟨fun h => skip ?_, fun h => ?_⟩
    · simp [wrg1, bI_0.mp h]
    · refine p_Knothing hS hl (by omega) hx ⟨fun g => skip ?_, fun g => ?_⟩
      · rw [hr.symm] at g
        simp [wrg1, bI_0.mp g]
      · refine ⟨(zN_in (by omega)).mpr (by omega), ?_⟩
        rw [zN_nat (by omega), hrow.1]
        refine p_note ⟨Or.inr rfl, ?_⟩
        have := h1 f (by simp only [fstN]; rw [if_pos]; rw [hr.symm] at g; simp [wrg1, bI_1.mp h, bI_1.mp g])
        rw [keyAt, hr] at this
        exact this
theorem p_points {o se tr l i : Nat} {M : sdM} {S : Sch} {A : ASet} {r : Row} {Q : Int32 → sdM → Prop} (hS : SCC M S) (hk : okSch S) (hA : RC M se A) (ho : okS A) (hl : l < 4) (hr : (A l)[i]? = some r) : ∀ (d f : Nat), f + d = lvS S l → (fstN (wrg2 S A l i) d f = none → Q 0 M) → (∀ f', fstN (wrg2 S A l i) d f = some f' → Q 1 (noted M tr (2, zN l, keyAt (A l) i, zN f'))) → h_K_pointsNowhere_2 o se tr Q (d + 1) M (zN l) (zN (12 * l + i)) (zN f) := by
  have hn := hk.2.1 l
  have hi : i < (A l).length := (List.getElem?_eq_some_iff.mp hr).1
  have hlen := (ho l hl).2.2
  have hx := (hA l hl).row (ho l hl) hl hr
  have hrow := (hA l hl).2 i r hr
  intro d
  induction d with
  | zero =>
    intro f hf h0 h1
    show vp_in _ 4 ∧ _
    rw [zN_nat (by omega), hS.2.1 l hl]
    exact ⟨(zN_in (by omega)).mpr hl, fun _ => ⟨Or.inl rfl, h0 rfl⟩, fun h => (h ((zN_le (by omega) (by omega)).mpr (by omega))).elim⟩
  | succ d ih =>
    intro f hf h0 h1
    show vp_in _ 4 ∧ _
    rw [zN_nat (show l < _ by omega), hS.2.1 l hl, zN_le (by omega) (by omega)]
    refine ⟨(zN_in (by omega)).mpr hl, fun h => by omega, fun _ => p_leafAt hl (by omega) ?_⟩
    have hlf := hS.2.2.1 (4 * l + f) (by omega)
    have skip : wrg2 S A l i f = false → h_K_pointsNowhere_2 o se tr Q (d + 1) M (zN l) (zN (12 * l + i)) (zN f + 1) := by
      intro hw
      rw [show zN f + 1 = zN (f + 1) from zN_add f 1]
      refine ih (f + 1) (by omega) (fun g => h0 ?_) (fun f' g => h1 f' ?_)
      · simp only [fstN]; rw [hw]; exact g
      · simp only [fstN]; rw [hw]; exact g
    rw [hlf.1]
    refine ⟨fun h => skip ?_, fun h => ?_⟩
    · simp [wrg2, bI_0.mp h]
    · refine p_isGiven hx (by omega) ⟨fun g => skip ?_, fun g => ?_⟩
      · rw [hr.symm] at g
        simp [wrg2, bI_0.mp g]
      · have hR := bI_1.mp h
        obtain ⟨-, w, hw, ew⟩ := (hk.2.2.1 (4 * l + f)).2 hR
        refine p_valueAt hx (by omega) ?_
        rw [hlf.2.1, ew]
        have hw9 : wrg2 S A l i f = (fi (A w) (lvV (some r) f)).isNone := by
          rw [hr.symm] at g
          rw [← hr]
          simp [wrg2, hR, bI_1.mp g, ew, zN_nat (show w < 2147483648 by omega)]
        refine p_rowOf hw (hA w hw) (ho w hw).2.2 ⟨fun k => skip ?_, fun k => ?_⟩
        · rw [hw9]
          cases hf9 : fi (A w) (lvV (some r) f) with
          | none => rw [hf9] at k; exact (k rfl).elim
          | some j => rfl
        · refine ⟨(zN_in (by omega)).mpr (by omega), ?_⟩
          rw [zN_nat (by omega), hrow.1]
          refine p_note ⟨Or.inr rfl, ?_⟩
          have h9 : wrg2 S A l i f = true := by
            rw [hw9]
            cases hf9 : fi (A w) (lvV (some r) f) with
            | none => rfl
            | some j =>
              rw [hf9] at k
              have hj : j < (A w).length := by
                unfold fi at hf9
                exact (List.findIdx?_eq_some_iff_getElem.mp hf9).1
              have := (ho w hw).2.2
              exact (zN_m1 (by omega) k).elim
          have := h1 f (by simp only [fstN]; rw [if_pos h9])
          rw [keyAt, hr] at this
          exact this
theorem p_isBefore_loop {o se tr l i f : Nat} {M : sdM} {S : Sch} {A : ASet} {Q : Int32 → sdM → Prop} (hS : SCC M S) (hA : RC M se A) (ho : okS A) (hl : l < 4) (hf : f < 4) (hi : i < (A l).length) : ∀ (d j : Nat), j + d = i → Q (bI (anyN (sameV S (A l) l i f) d j)) M → h_K_isBefore_31 o se tr Q (d + 1) M (zN l) (zN (12 * l + i)) (zN f) (whI S l (A l)[i]? f) (zN (12 * l + j)) := by
  have hlen := (ho l hl).2.2
  intro d
  induction d with
  | zero =>
    intro j hj hq
    exact ⟨fun _ => ⟨Or.inl rfl, hq⟩, fun h => (h ((zN_le (by omega) (by omega)).mpr (by omega))).elim⟩
  | succ d ih =>
    intro j hj hq
    have hrj : (A l)[j]? = some (A l)[j] := List.getElem?_eq_getElem (by omega)
    have hxj := (hA l hl).row (ho l hl) hl hrj
    rw [hrj.symm] at hxj
    have skip : sameV S (A l) l i f j = false → h_K_isBefore_31 o se tr Q (d + 1) M (zN l) (zN (12 * l + i)) (zN f) (whI S l (A l)[i]? f) (zN (12 * l + j) + 1) := by
      intro hw
      rw [show zN (12 * l + j) + 1 = zN (12 * l + (j + 1)) from zN_add (12 * l + j) 1]
      refine ih (j + 1) (by omega) ?_
      rw [anyN, hw, Bool.false_or] at hq
      exact hq
    refine ⟨fun h => ?_, fun _ => p_Knothing hS hl hf hxj ⟨fun g => skip ?_, fun g => p_Kwhat hS hl hf hxj ⟨fun k => skip ?_, fun k => ⟨Or.inr rfl, ?_⟩⟩⟩⟩
    · rw [zN_le (by omega) (by omega)] at h; omega
    · simp [sameV, bI_1.mp g]
    · simp [sameV, k]
    · have : sameV S (A l) l i f j = true := by simp [sameV, k, bI_0.mp g]
      rw [anyN, this, Bool.true_or] at hq
      exact hq
theorem p_isBefore {o se tr l i f : Nat} {M : sdM} {S : Sch} {A : ASet} {Q : Int32 → sdM → Prop} (hS : SCC M S) (hA : RC M se A) (ho : okS A) (hl : l < 4) (hf : f < 4) (hi : i < (A l).length) (hq : Q (bI (twice S (A l) l i f)) M) : w_K_isBefore o se tr M (zN l) (zN (12 * l + i)) (zN f) Q := by
  have hr : (A l)[i]? = some (A l)[i] := List.getElem?_eq_getElem hi
  have hx := (hA l hl).row (ho l hl) hl hr
  rw [hr.symm] at hx
  refine p_Knothing hS hl hf hx ⟨fun g => p_Kwhat hS hl hf hx ?_, fun g => ⟨Or.inl rfl, ?_⟩⟩
  · refine ⟨i + 1, ?_⟩
    rw [show (12 : Int32) = zN 12 from rfl, zN_mul, show l * 12 = 12 * l + 0 by omega]
    refine p_isBefore_loop hS hA ho hl hf hi i 0 (by omega) ?_
    rw [twice, bI_0.mp g] at hq
    exact hq
  · rw [twice, bI_1.mp g] at hq
    exact hq
theorem p_repeats {o se tr l i : Nat} {M : sdM} {S : Sch} {A : ASet} {r : Row} {Q : Int32 → sdM → Prop} (hS : SCC M S) (hk : okSch S) (hA : RC M se A) (ho : okS A) (hl : l < 4) (hr : (A l)[i]? = some r) : ∀ (d f : Nat), f + d = lvS S l → (fstN (wrg3 S A l i) d f = none → Q 0 M) → (∀ f', fstN (wrg3 S A l i) d f = some f' → Q 1 (noted M tr (3, zN l, keyAt (A l) i, zN f'))) → h_K_repeatsLeaf_2 o se tr Q (d + 1) M (zN l) (zN (12 * l + i)) (zN f) := by
  have hn := hk.2.1 l
  have hi : i < (A l).length := (List.getElem?_eq_some_iff.mp hr).1
  have hlen := (ho l hl).2.2
  have hrow := (hA l hl).2 i r hr
  intro d
  induction d with
  | zero =>
    intro f hf h0 h1
    show vp_in _ 4 ∧ _
    rw [zN_nat (by omega), hS.2.1 l hl]
    exact ⟨(zN_in (by omega)).mpr hl, fun _ => ⟨Or.inl rfl, h0 rfl⟩, fun h => (h ((zN_le (by omega) (by omega)).mpr (by omega))).elim⟩
  | succ d ih =>
    intro f hf h0 h1
    show vp_in _ 4 ∧ _
    rw [zN_nat (show l < _ by omega), hS.2.1 l hl, zN_le (by omega) (by omega)]
    refine ⟨(zN_in (by omega)).mpr hl, fun h => by omega, fun _ => p_leafAt hl (by omega) ?_⟩
    have hlf := hS.2.2.1 (4 * l + f) (by omega)
    have skip : wrg3 S A l i f = false → h_K_repeatsLeaf_2 o se tr Q (d + 1) M (zN l) (zN (12 * l + i)) (zN f + 1) := by
      intro hw
      rw [show zN f + 1 = zN (f + 1) from zN_add f 1]
      refine ih (f + 1) (by omega) (fun g => h0 ?_) (fun f' g => h1 f' ?_)
      · simp only [fstN]; rw [hw]; exact g
      · simp only [fstN]; rw [hw]; exact g
    rw [hlf.2.2.2.2.1]
    refine ⟨fun h => skip ?_, fun h => ?_⟩
    · simp [wrg3, bI_0.mp h]
    · refine p_isBefore hS hA ho hl (by omega) hi ⟨fun g => skip ?_, fun g => ?_⟩
      · simp [wrg3, bI_0.mp g]
      · refine ⟨(zN_in (by omega)).mpr (by omega), ?_⟩
        rw [zN_nat (by omega), hrow.1]
        refine p_note ⟨Or.inr rfl, ?_⟩
        have := h1 f (by simp only [fstN]; rw [if_pos]; simp [wrg3, bI_1.mp h, bI_1.mp g])
        rw [keyAt, hr] at this
        exact this
theorem p_isBroken {o se tr c : Nat} {M : sdM} {S : Sch} {q : Ru} {p : Int32} {x : Option Row} {Q : Int32 → sdM → Prop} (hS : SCC M S) (hc : ruleC M c q) (h1 : ruL q < 4) (h2 : ruA q < 4) (h3 : ruB q < 4) (hx : isRow M se p x) (hq : Q (bI (brk S q x)) M) : w_K_isBroken o se tr M c p Q := by
  unfold w_K_isBroken
  rw [hc.1, hc.2.1]
  refine p_Knothing hS h1 h2 hx ⟨fun g => ⟨Or.inl rfl, ?_⟩, fun g => ?_⟩
  · have : brk S q x = false := by simp [brk, bI_1.mp g]
    rw [this] at hq; exact hq
  · rw [hc.1, hc.2.1]
    refine p_Kwhat hS h1 h2 hx ?_
    rw [hc.2.2.1]
    refine ⟨fun k => ⟨Or.inl rfl, ?_⟩, fun k => ?_⟩
    · have : brk S q x = false := by simp [brk, k]
      rw [this] at hq; exact hq
    · rw [hc.1, hc.2.2.2.1]
      refine p_Knothing hS h1 h3 hx ?_
      rw [hc.2.2.2.2, bI_eq]
      refine ⟨fun m => ⟨Or.inl rfl, ?_⟩, fun m => ⟨Or.inr rfl, ?_⟩⟩
      · have : brk S q x = false := by simp [brk, m]
        rw [this] at hq; exact hq
      · have : brk S q x = true := by simp [brk, k, m, bI_0.mp g]
        rw [this] at hq; exact hq
theorem p_breaks {o se tr l i : Nat} {M : sdM} {S : Sch} {A : ASet} {r : Row} {Q : Int32 → sdM → Prop} (hS : SCC M S) (hk : okSch S) (hA : RC M se A) (ho : okS A) (hl : l < 4) (hr : (A l)[i]? = some r) : ∀ (d f : Nat), f + d = nrS S → (fstN (wrg4 S A l i) d f = none → Q 0 M) → (∀ f', fstN (wrg4 S A l i) d f = some f' → Q 1 (noted M tr (4, zN l, keyAt (A l) i, zN f'))) → h_K_breaksRule_2 o se tr Q (d + 1) M (zN l) (zN (12 * l + i)) (zN f) := by
  have hn := hk.2.2.2.1
  have hi : i < (A l).length := (List.getElem?_eq_some_iff.mp hr).1
  have hlen := (ho l hl).2.2
  have hx := (hA l hl).row (ho l hl) hl hr
  have hrow := (hA l hl).2 i r hr
  intro d
  induction d with
  | zero =>
    intro f hf h0 h1
    show (M 1 4 ≤ _ → _) ∧ _
    rw [hS.2.2.2.1]
    exact ⟨fun _ => ⟨Or.inl rfl, h0 rfl⟩, fun h => (h ((zN_le (by omega) (by omega)).mpr (by omega))).elim⟩
  | succ d ih =>
    intro f hf h0 h1
    show (M 1 4 ≤ _ → _) ∧ _
    have hru := hS.2.2.2.2 f (by omega)
    have hb := hk.2.2.2.2.1 f
    rw [hS.2.2.2.1, zN_nat (show f < _ by omega), zN_le (by omega) (by omega), hru.1, zN_eq (by omega) (by omega)]
    have skip : wrg4 S A l i f = false → h_K_breaksRule_2 o se tr Q (d + 1) M (zN l) (zN (12 * l + i)) (zN f + 1) := by
      intro hw
      rw [show zN f + 1 = zN (f + 1) from zN_add f 1]
      refine ih (f + 1) (by omega) (fun g => h0 ?_) (fun f' g => h1 f' ?_)
      · simp only [fstN]; rw [hw]; exact g
      · simp only [fstN]; rw [hw]; exact g
    refine ⟨fun h => by omega, fun _ => ⟨(zN_in (by omega)).mpr (by omega), fun h => skip ?_, fun h => ?_⟩⟩
    · simp [wrg4, h]
    · refine p_isBroken hS hru hb.1 hb.2.1 hb.2.2 hx ⟨fun g => skip ?_, fun g => ?_⟩
      · rw [hr.symm] at g
        simp [wrg4, bI_0.mp g]
      · refine ⟨(zN_in (by omega)).mpr (by omega), ?_⟩
        rw [zN_nat (by omega), hrow.1]
        refine p_note ⟨Or.inr rfl, ?_⟩
        have := h1 f (by simp only [fstN]; rw [if_pos]; rw [hr.symm] at g; simp [wrg4, h, bI_1.mp g])
        rw [keyAt, hr] at this
        exact this
theorem p_passes_rows {o se tr l : Nat} {M : sdM} {S : Sch} {A : ASet} {Q : Int32 → sdM → Prop} {k11 : sdM → Int32 → Prop} (hS : SCC M S) (hk : okSch S) (hA : RC M se A) (ho : okS A) (hl : l < 4) : ∀ (d i : Nat), i + d = (A l).length → (wrgL S A l d i = none → k11 M (zN (l + 1))) → (∀ w, wrgL S A l d i = some w → Q 0 (noted M tr w)) → h_K_passes_31 o se tr Q k11 (d + 1) M (zN l) (zN (12 * l + i)) := by
  have hlen := (ho l hl).2.2
  intro d
  induction d with
  | zero =>
    intro i hi h0 h1
    refine ⟨(zN_in (by omega)).mpr hl, ?_⟩
    rw [endRowI (hA l hl) hl]
    refine ⟨fun _ => ?_, fun h => (h ((zN_le (by omega) (by omega)).mpr (by omega))).elim⟩
    rw [show zN l + 1 = zN (l + 1) from zN_add l 1]
    exact h0 rfl
  | succ d ih =>
    intro i hi h0 h1
    have hr : (A l)[i]? = some (A l)[i] := List.getElem?_eq_getElem (by omega)
    refine ⟨(zN_in (by omega)).mpr hl, ?_⟩
    rw [endRowI (hA l hl) hl]
    refine ⟨fun h => by rw [zN_le (by omega) (by omega)] at h; omega, fun _ => ?_⟩
    simp only [wrgL, wrgE] at h0 h1
    refine ⟨lvS S l + 1, p_lacks hS hk hA ho hl hr _ 0 (by omega) (fun e1 => ⟨fun h => (h rfl).elim, fun _ => ?_⟩) (fun f' e1 => ⟨fun _ => ⟨Or.inl rfl, ?_⟩, fun h => absurd h (by decide)⟩)⟩
    · rw [e1] at h0 h1
      refine ⟨lvS S l + 1, p_points hS hk hA ho hl hr _ 0 (by omega) (fun e2 => ⟨fun h => (h rfl).elim, fun _ => ?_⟩) (fun f' e2 => ⟨fun _ => ⟨Or.inl rfl, ?_⟩, fun h => absurd h (by decide)⟩)⟩
      · rw [e2] at h0 h1
        refine ⟨lvS S l + 1, p_repeats hS hk hA ho hl hr _ 0 (by omega) (fun e3 => ⟨fun h => (h rfl).elim, fun _ => ?_⟩) (fun f' e3 => ⟨fun _ => ⟨Or.inl rfl, ?_⟩, fun h => absurd h (by decide)⟩)⟩
        · rw [e3] at h0 h1
          refine ⟨nrS S + 1, p_breaks hS hk hA ho hl hr _ 0 (by omega) (fun e4 => ⟨fun _ => ?_, fun h => (h rfl).elim⟩) (fun f' e4 => ⟨fun h => absurd h (by decide), fun _ => ⟨Or.inl rfl, ?_⟩⟩)⟩
          · rw [e4] at h0 h1
            rw [show zN (12 * l + i) + 1 = zN (12 * l + (i + 1)) from zN_add (12 * l + i) 1]
            exact ih (i + 1) (by omega) h0 h1
          · rw [e4] at h1; exact h1 _ rfl
        · rw [e3] at h1; exact h1 _ rfl
      · rw [e2] at h1; exact h1 _ rfl
    · rw [e1] at h1; exact h1 _ rfl
theorem p_passes_lists {o se tr : Nat} {M : sdM} {S : Sch} {A : ASet} {Q : Int32 → sdM → Prop} (hS : SCC M S) (hk : okSch S) (hA : RC M se A) (ho : okS A) : ∀ (d l : Nat), l + d = nlS S → (wrgS S A d l = none → Q 1 M) → (∀ w, wrgS S A d l = some w → Q 0 (noted M tr w)) → h_K_passes_11 o se tr Q (d + 1) M (zN l) := by
  have hn := hk.1.2
  intro d
  induction d with
  | zero =>
    intro l hl h0 h1
    show (M 1 1 ≤ _ → _) ∧ _
    rw [hS.1]
    exact ⟨fun _ => ⟨Or.inr rfl, h0 rfl⟩, fun h => (h ((zN_le (by omega) (by omega)).mpr (by omega))).elim⟩
  | succ d ih =>
    intro l hl h0 h1
    show (M 1 1 ≤ _ → _) ∧ _
    rw [hS.1, zN_le (by omega) (by omega)]
    refine ⟨fun h => by omega, fun _ => ⟨(A l).length + 1, ?_⟩⟩
    rw [show (12 : Int32) = zN 12 from rfl, zN_mul, show l * 12 = 12 * l + 0 by omega]
    simp only [wrgS] at h0 h1
    refine p_passes_rows hS hk hA ho (by omega) _ 0 (by omega) (fun e => ?_) (fun w e => ?_)
    · rw [e] at h0 h1
      exact ih (l + 1) (by omega) h0 h1
    · rw [e] at h1; exact h1 _ rfl
theorem p_passes {o se tr : Nat} {M : sdM} {S : Sch} {A : ASet} {Q : Int32 → sdM → Prop} (hS : SCC M S) (hk : okSch S) (hA : RC M se A) (ho : okS A) (h0 : faultS S A = none → Q 1 M) (h1 : ∀ w, faultS S A = some w → Q 0 (noted M tr w)) : w_K_passes o se tr M Q := by
  unfold faultS at h0 h1
  refine ⟨nlS S + 1, p_crowded hS hk hA ho _ 0 (by omega) (fun e => ⟨fun _ => ⟨nlS S + 1, ?_⟩, fun h => (h rfl).elim⟩) (fun l' e => ⟨fun h => absurd h (by decide), fun _ => ⟨Or.inl rfl, ?_⟩⟩)⟩
  · rw [e] at h0 h1
    exact p_passes_lists hS hk hA ho _ 0 (by omega) h0 h1
  · rw [e] at h1; exact h1 _ rfl
theorem flag1 : ∀ b, b < 4 → ((zN b &&& (1 : Int32) = 1) ↔ b.testBit 0 = true) := by decide
theorem flag2 : ∀ b, b < 4 → ((zN b &&& (2 : Int32) = 2) ↔ b.testBit 1 = true) := by decide
theorem m_something {l f : Nat} {M : sdM} {S : Sch} {p : Int32} {x : Option Row} {Q : Int32 → sdM → Prop} (hS : SCM M S) (hx : isRowM M p x) (hl : l < 4) (hf : f < 4) (hq : Q (bI (!nothB S l x f)) M) : w_O_isSomething M p (zN l) (zN f) Q := by
  refine m_isSomething hx hl hf (hS.2.2.1 (4 * l + f) (by omega)).2.2.2.2.1 ?_
  have : (!nothB S l x f) = (lvB x f || lfHs (lfS S (4 * l + f))) := by simp [nothB]
  rw [← this]; exact hq
theorem m_what {l f : Nat} {M : sdM} {S : Sch} {p : Int32} {x : Option Row} {Q : Int32 → sdM → Prop} (hS : SCM M S) (hx : isRowM M p x) (hl : l < 4) (hf : f < 4) (hq : Q (whI S l x f) M) : w_O_valueOf M p (zN l) (zN f) Q :=
  m_valueOf hx hl hf (hS.2.2.1 (4 * l + f) (by omega)).2.2.2.2.2 hq
theorem m_isTwice_loop {s l i f : Nat} {M : sdM} {S : Sch} {A : ASet} {Q : Int32 → sdM → Prop} (hS : SCM M S) (hA : RM M s A) (ho : okS A) (hs : s < 17) (hl : l < 4) (hf : f < 4) (hi : i < (A l).length) : ∀ (d j : Nat) (b : Bool), j + d = i → Q (bI (b || (!nothB S l (A l)[i]? f && anyN (sameV S (A l) l i f) d j))) M → h_O_isTwice_14 Q (d + 1) M (zN l) (zN (48 * s + 12 * l + i)) (zN f) (bI b) (zN (48 * s + 12 * l + j)) := by
  have hlen := (ho l hl).2.2
  have hr : (A l)[i]? = some (A l)[i] := List.getElem?_eq_getElem hi
  have hx := (hA l hl).row (ho l hl) hs hl hr
  rw [hr.symm] at hx
  intro d
  induction d with
  | zero =>
    intro j b hj hq
    refine ⟨fun _ => ⟨bI_B _, ?_⟩, fun h => (h ((zN_le (by omega) (by omega)).mpr (by omega))).elim⟩
    rw [anyN, Bool.and_false, Bool.or_false] at hq
    exact hq
  | succ d ih =>
    intro j b hj hq
    have hrj : (A l)[j]? = some (A l)[j] := List.getElem?_eq_getElem (by omega)
    have hxj := (hA l hl).row (ho l hl) hs hl hrj
    rw [hrj.symm] at hxj
    have go : ∀ c : Bool, (c || (!nothB S l (A l)[i]? f && anyN (sameV S (A l) l i f) d (j + 1))) = (b || (!nothB S l (A l)[i]? f && anyN (sameV S (A l) l i f) (d + 1) j)) → h_O_isTwice_14 Q (d + 1) M (zN l) (zN (48 * s + 12 * l + i)) (zN f) (bI c) (zN (48 * s + 12 * l + j) + 1) := by
      intro c hw
      rw [show zN (48 * s + 12 * l + j) + 1 = zN (48 * s + 12 * l + (j + 1)) from zN_add (48 * s + 12 * l + j) 1]
      refine ih (j + 1) c (by omega) ?_
      rw [hw]
      exact hq
    refine ⟨fun h => by rw [zN_le (by omega) (by omega)] at h; omega, fun _ => ⟨fun hb => go true ?_, fun hb => ?_⟩⟩
    · rw [bI_1.mp hb]; simp
    · have hb := bI_0.mp hb
      subst hb
      refine m_something hS hxj hl hf ⟨fun g => go false ?_, fun g => m_something hS hx hl hf ⟨fun g2 => go false ?_, fun g2 => m_what hS hxj hl hf (m_what hS hx hl hf ⟨fun k => go false ?_, fun k => go true ?_⟩)⟩⟩
      · have : sameV S (A l) l i f j = false := by
          have := bI_0.mp g
          simp [sameV, this]
        simp [anyN, this]
      · have := bI_0.mp g2
        simp [this]
      · have : sameV S (A l) l i f j = false := by simp [sameV, k]
        simp [anyN, this]
      · have h1 := bI_1.mp g
        have h2 := bI_1.mp g2
        have : sameV S (A l) l i f j = true := by simp [sameV, k, h1]
        simp [anyN, this, h2]
theorem m_isTwice {s l i f : Nat} {M : sdM} {S : Sch} {A : ASet} {Q : Int32 → sdM → Prop} (hS : SCM M S) (hA : RM M s A) (ho : okS A) (hs : s < 17) (hl : l < 4) (hf : f < 4) (hi : i < (A l).length) (hq : Q (bI (twice S (A l) l i f)) M) : w_O_isTwice M (zN s) (zN l) (zN (48 * s + 12 * l + i)) (zN f) Q := by
  refine ⟨i + 1, ?_⟩
  rw [zN48]
  exact m_isTwice_loop hS hA ho hs hl hf hi i 0 false (by omega) (by rw [Bool.false_or]; exact hq)
theorem m_wrong1 {s l i f : Nat} {M : sdM} {S : Sch} {A : ASet} {Q : Int32 → sdM → Prop} (hS : SCM M S) (hk : okSch S) (hA : RM M s A) (ho : okS A) (hs : s < 17) (hl : l < 4) (hf : f < 4) (hi : i < (A l).length) (hq : Q (bI (wrg1 S A l i f)) M) : w_O_isWrong M 1 (zN s) (zN l) (zN (48 * s + 12 * l + i)) (zN f) Q := by
  have hr : (A l)[i]? = some (A l)[i] := List.getElem?_eq_getElem hi
  have hx := (hA l hl).row (ho l hl) hs hl hr
  rw [hr.symm] at hx
  have hlf := hS.2.2.1 (4 * l + f) (by omega)
  refine ⟨fun h => absurd rfl h, fun _ => ?_⟩
  rw [zN4, zN_nat (by omega), hlf.2.2.2.1, flag1 _ (hk.2.2.1 _).1]
  refine ⟨(zN_in (by omega)).mpr (by omega), fun h => ⟨Or.inl rfl, ?_⟩, fun h => m_something hS hx hl hf ⟨fun g => ⟨Or.inl rfl, ?_⟩, fun g => ⟨Or.inr rfl, ?_⟩⟩⟩
  · have : wrg1 S A l i f = false := by unfold wrg1; rw [Bool.not_eq_true] at h; rw [h]; rfl
    rw [this] at hq; exact hq
  · have h9 := bI_1.mp g
    have : wrg1 S A l i f = false := by unfold wrg1; simp at h9; rw [h9]; simp
    rw [this] at hq; exact hq
  · have h9 := bI_0.mp g
    have : wrg1 S A l i f = true := by unfold wrg1; simp at h9; rw [h9, h]; rfl
    rw [this] at hq; exact hq
theorem m_wrong2 {s l i f : Nat} {M : sdM} {S : Sch} {A : ASet} {Q : Int32 → sdM → Prop} (hS : SCM M S) (hk : okSch S) (hA : RM M s A) (ho : okS A) (hs : s < 17) (hl : l < 4) (hf : f < 4) (hi : i < (A l).length) (hq : Q (bI (wrg2 S A l i f)) M) : w_O_isWrong M 2 (zN s) (zN l) (zN (48 * s + 12 * l + i)) (zN f) Q := by
  have hr : (A l)[i]? = some (A l)[i] := List.getElem?_eq_getElem hi
  have hx := (hA l hl).row (ho l hl) hs hl hr
  rw [hr.symm] at hx
  have hlf := hS.2.2.1 (4 * l + f) (by omega)
  refine ⟨fun _ => ⟨fun h => absurd rfl h, fun _ => ?_⟩, fun h => absurd h (by decide)⟩
  rw [zN4, zN_nat (by omega), hlf.1]
  refine ⟨(zN_in (by omega)).mpr (by omega), fun h => ⟨Or.inl rfl, ?_⟩, fun h => ?_⟩
  · have : wrg2 S A l i f = false := by unfold wrg2; rw [bI_0.mp h]; rfl
    rw [this] at hq; exact hq
  have hR := bI_1.mp h
  obtain ⟨hno, w, hw, ew⟩ := (hk.2.2.1 (4 * l + f)).2 hR
  have hsome : (!nothB S l (A l)[i]? f) = lvB (A l)[i]? f := by simp [nothB, hno]
  refine m_something hS hx hl hf ⟨fun g => ⟨Or.inl rfl, ?_⟩, fun g => ⟨(zN_in (by omega)).mpr (by omega), m_what hS hx hl hf ?_⟩⟩
  · have h9 := bI_0.mp g
    rw [hsome] at h9
    have : wrg2 S A l i f = false := by unfold wrg2; rw [h9]; simp
    rw [this] at hq; exact hq
  · have h9 := bI_1.mp g
    rw [hsome] at h9
    have hv : whI S l (A l)[i]? f = lvV (A l)[i]? f := by unfold whI; rw [h9]; rfl
    have hw9 : wrg2 S A l i f = (fi (A w) (lvV (A l)[i]? f)).isNone := by
      unfold wrg2; rw [hR, h9, ew, zN_nat (by omega)]; rfl
    rw [hlf.2.1, ew, hv]
    refine m_find hs hw (hA w hw) (ho w hw) ⟨fun k => ⟨Or.inl rfl, ?_⟩, fun k => ⟨Or.inr rfl, ?_⟩⟩
    · have : wrg2 S A l i f = false := by
        rw [hw9]
        cases hf9 : fi (A w) (lvV (A l)[i]? f) with
        | none => rw [hf9] at k; exact absurd (show (0 : Int32) ≤ -1 from k) (by decide)
        | some j => rfl
      rw [this] at hq; exact hq
    · have : wrg2 S A l i f = true := by
        rw [hw9]
        cases hf9 : fi (A w) (lvV (A l)[i]? f) with
        | none => rfl
        | some j =>
          rw [hf9] at k
          have hj : j < (A w).length := by
            unfold fi at hf9
            exact (List.findIdx?_eq_some_iff_getElem.mp hf9).1
          have := (ho w hw).2.2
          exact (k ((zN_le (a := 0) (by omega) (by omega)).mpr (by omega))).elim
      rw [this] at hq; exact hq
theorem m_wrong3 {s l i f : Nat} {M : sdM} {S : Sch} {A : ASet} {Q : Int32 → sdM → Prop} (hS : SCM M S) (hk : okSch S) (hA : RM M s A) (ho : okS A) (hs : s < 17) (hl : l < 4) (hf : f < 4) (hi : i < (A l).length) (hq : Q (bI (wrg3 S A l i f)) M) : w_O_isWrong M 3 (zN s) (zN l) (zN (48 * s + 12 * l + i)) (zN f) Q := by
  have hlf := hS.2.2.1 (4 * l + f) (by omega)
  refine ⟨fun _ => ⟨fun _ => ?_, fun h => absurd h (by decide)⟩, fun h => absurd h (by decide)⟩
  rw [zN4, zN_nat (by omega), hlf.2.2.2.1, flag2 _ (hk.2.2.1 _).1]
  refine ⟨(zN_in (by omega)).mpr (by omega), fun h => ⟨Or.inl rfl, ?_⟩, fun h => m_isTwice hS hA ho hs hl hf hi ⟨fun g => ⟨Or.inl rfl, ?_⟩, fun g => ⟨Or.inr rfl, ?_⟩⟩⟩
  · have : wrg3 S A l i f = false := by unfold wrg3; rw [Bool.not_eq_true] at h; rw [h]; rfl
    rw [this] at hq; exact hq
  · have : wrg3 S A l i f = false := by unfold wrg3; rw [bI_0.mp g]; simp
    rw [this] at hq; exact hq
  · have : wrg3 S A l i f = true := by unfold wrg3; rw [bI_1.mp g, h]; rfl
    rw [this] at hq; exact hq
theorem m_isBroken {r : Nat} {M : sdM} {S : Sch} {p : Int32} {x : Option Row} {Q : Int32 → sdM → Prop} (hS : SCM M S) (hk : okSch S) (hr : r < 4) (hx : isRowM M p x) (hq : Q (bI (brk S (ruS S r) x)) M) : w_O_isBroken M (zN r) p Q := by
  have hc := hS.2.2.2.2 r hr
  obtain ⟨h1, h2, h3⟩ := hk.2.2.2.2.1 r
  have hin : vp_in (zN r) 4 := (zN_in (by omega)).mpr hr
  unfold w_O_isBroken
  rw [zN_nat (by omega), hc.1, hc.2.1]
  refine ⟨hin, hin, m_something hS hx h1 h2 ⟨fun g => ⟨fun _ => ⟨Or.inl rfl, ?_⟩, fun h => absurd rfl h⟩, fun g => ⟨hin, ?_⟩⟩⟩
  · have h9 := bI_0.mp g
    have : brk S (ruS S r) x = false := by unfold brk; rw [h9]; rfl
    rw [this] at hq; exact hq
  · rw [hc.2.1]
    have g9 := bI_1.mp g
    refine m_what hS hx h1 h2 ⟨hin, fun k => ⟨fun _ => ⟨Or.inl rfl, ?_⟩, fun h => absurd rfl h⟩, fun k => ⟨fun h => absurd h (by decide), fun _ => ⟨hin, ?_⟩⟩⟩
    · rw [hc.2.2.1] at k
      have : brk S (ruS S r) x = false := by unfold brk; simp [k]
      rw [this] at hq; exact hq
    · rw [zN_nat (by omega), hc.2.2.2.1]
      rw [hc.2.2.1] at k
      refine m_something hS hx h1 h3 ⟨hin, ?_⟩
      rw [hc.2.2.2.2, bI_eq]
      refine ⟨fun m => ⟨Or.inl rfl, ?_⟩, fun m => ⟨Or.inr rfl, ?_⟩⟩
      · have : brk S (ruS S r) x = false := by unfold brk; rw [← m]; cases nothB S (ruL (ruS S r)) x (ruB (ruS S r)) <;> simp
        rw [this] at hq; exact hq
      · have : brk S (ruS S r) x = true := by
          unfold brk; rw [g9, k]
          revert m
          cases nothB S (ruL (ruS S r)) x (ruB (ruS S r)) <;> cases ruT (ruS S r) <;> simp
        rw [this] at hq; exact hq
theorem m_wrong_loop {s l : Nat} {p kd : Int32} {M : sdM} {S : Sch} {P : Nat → Bool} {Q : Int32 → sdM → Prop} {k3 : sdM → Int32 → Int32 → Int32 → Int32 → Prop} (hS : SCM M S) (hk : okSch S) (hl : l < 4) (hW : ∀ f, f < 4 → ∀ Q' : Int32 → sdM → Prop, Q' (bI (P f)) M → w_O_isWrong M kd (zN s) (zN l) p (zN f) Q') : ∀ (d f : Nat), f + d = lvS S l → (fstN P d f = none → k3 M (zN s) (zN l) p (kd + 1)) → (∀ f', fstN P d f = some f' → Q kd (sd_s M 116 33 (zN f'))) → h_O_wrongEntry_12 Q k3 (d + 1) M (zN s) (zN l) p kd (zN f) := by
  have hn := hk.2.1 l
  intro d
  induction d with
  | zero =>
    intro f hf h0 h1
    show vp_in _ 4 ∧ _
    rw [zN_nat (by omega), hS.2.1 l hl]
    exact ⟨(zN_in (by omega)).mpr hl, fun _ => h0 rfl, fun h => (h ((zN_le (by omega) (by omega)).mpr (by omega))).elim⟩
  | succ d ih =>
    intro f hf h0 h1
    show vp_in _ 4 ∧ _
    rw [zN_nat (show l < _ by omega), hS.2.1 l hl, zN_le (by omega) (by omega)]
    refine ⟨(zN_in (by omega)).mpr hl, fun h => by omega, fun _ => hW f (by omega) _ ⟨fun g => ?_, fun g => ?_⟩⟩
    · have hw := bI_0.mp g
      rw [show zN f + 1 = zN (f + 1) from zN_add f 1]
      refine ih (f + 1) (by omega) (fun g => h0 ?_) (fun f' g => h1 f' ?_)
      · simp only [fstN]; rw [hw]; exact g
      · simp only [fstN]; rw [hw]; exact g
    · intro M' e
      rw [e]
      exact h1 f (by simp only [fstN]; rw [bI_1.mp g]; rfl)
theorem m_rules {l i : Nat} {p : Int32} {M : sdM} {S : Sch} {A : ASet} {Q : Int32 → sdM → Prop} (hS : SCM M S) (hk : okSch S) (hl : l < 4) (hx : isRowM M p (A l)[i]?) : ∀ (d f : Nat), f + d = nrS S → (fstN (wrg4 S A l i) d f = none → Q 0 M) → (∀ f', fstN (wrg4 S A l i) d f = some f' → Q 4 (sd_s M 116 33 (zN f'))) → h_O_wrongEntry_61 Q (d + 1) M (zN l) p (zN f) := by
  have hn := hk.2.2.2.1
  intro d
  induction d with
  | zero =>
    intro f hf h0 h1
    show (M 116 10 ≤ _ → _) ∧ _
    rw [hS.2.2.2.1]
    exact ⟨fun _ => h0 rfl, fun h => (h ((zN_le (by omega) (by omega)).mpr (by omega))).elim⟩
  | succ d ih =>
    intro f hf h0 h1
    show (M 116 10 ≤ _ → _) ∧ _
    have hru := hS.2.2.2.2 f (by omega)
    have hb := hk.2.2.2.2.1 f
    rw [hS.2.2.2.1, zN_nat (show f < _ by omega), zN_le (by omega) (by omega), hru.1, zN_eq (by omega) (by omega)]
    have skip : wrg4 S A l i f = false → h_O_wrongEntry_61 Q (d + 1) M (zN l) p (zN f + 1) := by
      intro hw
      rw [show zN f + 1 = zN (f + 1) from zN_add f 1]
      refine ih (f + 1) (by omega) (fun g => h0 ?_) (fun f' g => h1 f' ?_)
      · simp only [fstN]; rw [hw]; exact g
      · simp only [fstN]; rw [hw]; exact g
    refine ⟨fun h => by omega, fun _ => ⟨(zN_in (by omega)).mpr (by omega), fun h => skip ?_, fun h => ?_⟩⟩
    · simp [wrg4, h]
    · refine m_isBroken hS hk (by omega) hx ⟨fun g => skip ?_, fun g => ?_⟩
      · simp [wrg4, bI_0.mp g]
      · intro M' e
        rw [e]
        exact h1 f (by simp only [fstN]; rw [if_pos]; simp [wrg4, h, bI_1.mp g])
theorem m_wrongEntry {s l i : Nat} {M : sdM} {S : Sch} {A : ASet} {Q : Int32 → sdM → Prop} (hS : SCM M S) (hk : okSch S) (hA : RM M s A) (ho : okS A) (hs : s < 17) (hl : l < 4) (hi : i < (A l).length) (h0 : wrgE S A l i = none → Q 0 M) (h1 : ∀ w, wrgE S A l i = some w → Q (zN w.1) (sd_s M 116 33 (zN w.2))) : w_O_wrongEntry M (zN s) (zN l) (zN (48 * s + 12 * l + i)) Q := by
  have hr : (A l)[i]? = some (A l)[i] := List.getElem?_eq_getElem hi
  have hx := (hA l hl).row (ho l hl) hs hl hr
  rw [hr.symm] at hx
  unfold wrgE at h0 h1
  refine ⟨4, ⟨fun h => absurd h (by decide), fun _ => ⟨lvS S l + 1, m_wrong_loop hS hk hl (fun f hf Q' hq => m_wrong1 hS hk hA ho hs hl hf hi hq) _ 0 (by omega) (fun e1 => ?_) (fun f' e1 => ?_)⟩⟩⟩
  · rw [e1] at h0 h1
    refine ⟨fun h => absurd h (by decide), fun _ => ⟨lvS S l + 1, m_wrong_loop hS hk hl (fun f hf Q' hq => m_wrong2 hS hk hA ho hs hl hf hi hq) _ 0 (by omega) (fun e2 => ?_) (fun f' e2 => ?_)⟩⟩
    · rw [e2] at h0 h1
      refine ⟨fun h => absurd h (by decide), fun _ => ⟨lvS S l + 1, m_wrong_loop hS hk hl (fun f hf Q' hq => m_wrong3 hS hk hA ho hs hl hf hi hq) _ 0 (by omega) (fun e3 => ?_) (fun f' e3 => ?_)⟩⟩
      · rw [e3] at h0 h1
        refine ⟨fun _ => ⟨nrS S + 1, m_rules hS hk hl hx _ 0 (by omega) (fun e4 => ?_) (fun f' e4 => ?_)⟩, fun h => absurd (by decide) h⟩
        · rw [e4] at h0; exact h0 rfl
        · rw [e4] at h1; exact h1 _ rfl
      · rw [e3] at h1; exact h1 _ rfl
    · rw [e2] at h1; exact h1 _ rfl
  · rw [e1] at h1; exact h1 _ rfl
theorem wrgE_kind {S : Sch} {A : ASet} {l i : Nat} {w : Nat × Nat} (h : wrgE S A l i = some w) : 1 ≤ w.1 ∧ w.1 ≤ 4 := by
  unfold wrgE at h
  split at h
  · cases h; exact ⟨by simp, by simp⟩
  · split at h
    · cases h; exact ⟨by simp, by simp⟩
    · split at h
      · cases h; exact ⟨by simp, by simp⟩
      · split at h
        · cases h; exact ⟨by simp, by simp⟩
        · cases h
/-- M' is M, where the model has noted a list, a key and a leaf that it found -/
def Fnd (M M' : sdM) (l k p : Int32) : Prop := (∀ c, c ≠ 116 → M' c = M c) ∧ (∀ j, j ≠ 31 → j ≠ 32 → j ≠ 33 → M' 116 j = M 116 j) ∧ M' 116 31 = l ∧ M' 116 32 = k ∧ M' 116 33 = p
theorem m_faultRows {s l : Nat} {M : sdM} {S : Sch} {A : ASet} {Q : Int32 → sdM → Prop} {k50 : sdM → Int32 → Int32 → Prop} (hS : SCM M S) (hk : okSch S) (hA : RM M s A) (ho : okS A) (hs : s < 17) (hl : l < 4) : ∀ (d i : Nat), i + d = (A l).length → (wrgL S A l d i = none → k50 M (zN s) (zN (l + 1))) → (∀ w M', wrgL S A l d i = some w → Fnd M M' w.2.1 w.2.2.1 w.2.2.2 → Q w.1 M') → h_O_faultOf_60 Q k50 (d + 1) M (zN s) (zN l) (zN i) := by
  have hlen := (ho l hl).2.2
  intro d
  induction d with
  | zero =>
    intro i hi h0 h1
    show vp_in _ 68 ∧ _
    rw [zN4, zN_nat (by omega), (hA l hl).1]
    refine ⟨(zN_in (by omega)).mpr (by omega), fun _ => ?_, fun h => (h ((zN_le (by omega) (by omega)).mpr (by omega))).elim⟩
    rw [show zN l + 1 = zN (l + 1) from zN_add l 1]
    exact h0 rfl
  | succ d ih =>
    intro i hi h0 h1
    have hr : (A l)[i]? = some (A l)[i] := List.getElem?_eq_getElem (by omega)
    have hrow := (hA l hl).2 i _ hr
    show vp_in _ 68 ∧ _
    rw [zN4, zN48, zN_add, zN_nat (by omega), zN_nat (by omega), (hA l hl).1, zN_le (by omega) (by omega)]
    refine ⟨(zN_in (by omega)).mpr (by omega), fun h => by omega, fun _ => ?_⟩
    simp only [wrgL] at h0 h1
    refine m_wrongEntry hS hk hA ho hs hl (by omega) (fun e => ⟨fun _ => ?_, fun h => absurd (by decide) h⟩) (fun w e => ⟨fun h => ?_, fun _ => ?_⟩)
    · rw [e] at h0 h1
      rw [show zN i + 1 = zN (i + 1) from zN_add i 1]
      exact ih (i + 1) (by omega) h0 h1
    · have := wrgE_kind e
      rw [show (0 : Int32) = zN 0 from rfl, zN_le (by omega) (by omega)] at h; omega
    · intro M1 e1
      refine ⟨(zN_in (by omega)).mpr (by omega), fun M2 e2 => ?_⟩
      rw [e] at h1
      refine h1 _ M2 rfl ⟨fun c hc => ?_, fun j h31 h32 h33 => ?_, ?_, ?_, ?_⟩
      · rw [e2, sd_s_o hc, e1, sd_s_o hc, sd_s_o hc]
      · rw [e2, sd_s_ne h32, e1, sd_s_ne h31, sd_s_ne h33]
      · rw [e2, sd_s_ne (by omega), e1, sd_s_self]
      · rw [e2, sd_s_self, e1, sd_s_o (by omega), sd_s_o (by omega), hrow.1, keyAt, hr]
      · rw [e2, sd_s_ne (by omega), e1, sd_s_ne (by omega), sd_s_self]
theorem m_faultLists {s : Nat} {M : sdM} {S : Sch} {A : ASet} {Q : Int32 → sdM → Prop} (hS : SCM M S) (hk : okSch S) (hA : RM M s A) (ho : okS A) (hs : s < 17) : ∀ (d l : Nat), l + d = nlS S → (wrgS S A d l = none → Q 0 M) → (∀ w M', wrgS S A d l = some w → Fnd M M' w.2.1 w.2.2.1 w.2.2.2 → Q w.1 M') → h_O_faultOf_50 Q (d + 1) M (zN s) (zN l) := by
  have hn := hk.1.2
  intro d
  induction d with
  | zero =>
    intro l hl h0 h1
    show (M 116 2 ≤ _ → _) ∧ _
    rw [hS.1]
    exact ⟨fun _ => h0 rfl, fun h => (h ((zN_le (by omega) (by omega)).mpr (by omega))).elim⟩
  | succ d ih =>
    intro l hl h0 h1
    show (M 116 2 ≤ _ → _) ∧ _
    rw [hS.1, zN_le (by omega) (by omega)]
    refine ⟨fun h => by omega, fun _ => ⟨(A l).length + 1, ?_⟩⟩
    simp only [wrgS] at h0 h1
    refine m_faultRows hS hk hA ho hs (by omega) _ 0 (by omega) (fun e => ?_) (fun w M' e hF => ?_)
    · rw [e] at h0 h1
      exact ih (l + 1) (by omega) h0 h1
    · rw [e] at h1; exact h1 _ M' rfl hF
theorem m_faultCrowd {s : Nat} {M : sdM} {S : Sch} {A : ASet} {Q : Int32 → sdM → Prop} (hS : SCM M S) (hk : okSch S) (hA : RM M s A) (ho : okS A) (hs : s < 17) : ∀ (d l : Nat), l + d = nlS S → (fstN (fun l => decide (6 < (A l).length)) d l = none → ∃ N, h_O_faultOf_50 Q N M (zN s) 0) → (∀ l' M', fstN (fun l => decide (6 < (A l).length)) d l = some l' → Fnd M M' (zN l') (-1) (-1) → Q 5 M') → h_O_faultOf_2 Q (d + 1) M (zN s) (zN l) := by
  have hn := hk.1.2
  intro d
  induction d with
  | zero =>
    intro l hl h0 h1
    show (M 116 2 ≤ _ → _) ∧ _
    rw [hS.1]
    exact ⟨fun _ => h0 rfl, fun h => (h ((zN_le (by omega) (by omega)).mpr (by omega))).elim⟩
  | succ d ih =>
    intro l hl h0 h1
    have hlen := (ho l (by omega)).2.2
    show (M 116 2 ≤ _ → _) ∧ _
    rw [hS.1, zN4, zN_nat (by omega), (hA l (by omega)).1, show (6 : Int32) = zN 6 from rfl, zN_le (by omega) (by omega), zN_le (by omega) (by omega)]
    refine ⟨fun h => by omega, fun _ => ⟨(zN_in (by omega)).mpr (by omega), fun h => ?_, fun h => ?_⟩⟩
    · rw [show zN l + 1 = zN (l + 1) from zN_add l 1]
      refine ih (l + 1) (by omega) (fun g => h0 ?_) (fun l' M' g => h1 l' M' ?_)
      · simp only [fstN]; rw [if_neg (by simp; omega)]; exact g
      · simp only [fstN]; rw [if_neg (by simp; omega)]; exact g
    · intro M1 e1 M2 e2 M3 e3
      refine h1 l M3 (by simp only [fstN]; rw [if_pos (by simp; omega)]) ⟨fun c hc => ?_, fun j h31 h32 h33 => ?_, ?_, ?_, ?_⟩
      · rw [e3, sd_s_o hc, e2, sd_s_o hc, e1, sd_s_o hc]
      · rw [e3, sd_s_ne h33, e2, sd_s_ne h32, e1, sd_s_ne h31]
      · rw [e3, sd_s_ne (by omega), e2, sd_s_ne (by omega), e1, sd_s_self]
      · rw [e3, sd_s_ne (by omega), e2, sd_s_self]
      · rw [e3, sd_s_self]
theorem m_faultOf {s : Nat} {M : sdM} {S : Sch} {A : ASet} {Q : Int32 → sdM → Prop} (hS : SCM M S) (hk : okSch S) (hA : RM M s A) (ho : okS A) (hs : s < 17) (h0 : faultS S A = none → Q 0 M) (h1 : ∀ w M', faultS S A = some w → Fnd M M' w.2.1 w.2.2.1 w.2.2.2 → Q w.1 M') : w_O_faultOf M (zN s) Q := by
  unfold faultS at h0 h1
  refine ⟨nlS S + 1, m_faultCrowd hS hk hA ho hs _ 0 (by omega) (fun e => ⟨nlS S + 1, ?_⟩) (fun l' M' e hF => ?_)⟩
  · rw [e] at h0 h1
    exact m_faultLists hS hk hA ho hs _ 0 (by omega) h0 h1
  · rw [e] at h1; exact h1 _ M' rfl hF
/-- the row of the key k -/
def lk (R : List Row) (k : Nat) : Option Row := atR R (fi R (zN k))
theorem fi_lt {R : List Row} {k : Int32} {i : Nat} (h : fi R k = some i) : i < R.length := by
  unfold fi at h
  exact (List.findIdx?_eq_some_iff_getElem.mp h).1
theorem lk_some {R : List Row} (h : okL R) {k i : Nat} {r : Row} (hr : R[i]? = some r) (hk : r.1 = k) : lk R k = some r := by
  unfold lk
  rw [fi_some h hr (by rw [hk])]
  exact hr
theorem lk_spec {R : List Row} (h : okL R) {k : Nat} (hk : k < 2147483648) {r : Row} (hr : lk R k = some r) : r.1 = k ∧ okR r ∧ r ∈ R ∧ ∃ i : Nat, R[i]? = some r := by
  unfold lk at hr
  cases hf : fi R (zN k) with
  | none => rw [hf] at hr; cases hr
  | some i =>
    rw [hf] at hr
    have hr : R[i]? = some r := hr
    have hm := List.mem_of_getElem? hr
    have hok := h.1 r hm
    refine ⟨?_, hok, hm, i, hr⟩
    unfold fi at hf
    obtain ⟨hi, h1, -⟩ := List.findIdx?_eq_some_iff_getElem.mp hf
    have : R[i] = r := by rw [List.getElem?_eq_getElem hi] at hr; exact Option.some.inj hr
    rw [this] at h1
    have h1 : zN r.1 = zN k := by simpa using h1
    have := hok.1
    exact (zN_eq (by omega) (by omega)).mp h1
theorem lk_none {R : List Row} {k : Nat} (h : ∀ r ∈ R, r.1 ≠ k) (hR : okL R) (hk : k < 2147483648) : lk R k = none := by
  cases hl : lk R k with
  | none => rfl
  | some r => obtain ⟨a, -, b, -⟩ := lk_spec hR hk hl; exact (h r b a).elim
theorem lk_ok {R : List Row} (h : okL R) (k : Nat) (hk : k < 2147483648) : ∀ r, lk R k = some r → okR r := fun r hr => (lk_spec h hk hr).2.1
theorem sameL_comm (x y : Option Row) (f : Nat) : sameL x y f = sameL y x f := by
  unfold sameL
  congr 1
  · cases lvB x f <;> cases lvB y f <;> rfl
  · rw [Bool.eq_iff_iff, beq_iff_eq, beq_iff_eq]
    exact ⟨fun h => h.symm, fun h => h.symm⟩
theorem sameE_refl (x : Option Row) : sameE x x = true := by simp [sameE, sameL]
/-- rows of one key that are the same are equal -/
theorem sameE_eq {x y : Option Row} (hx : ∀ r, x = some r → okR r) (hy : ∀ r, y = some r → okR r) (hk : ∀ r q, x = some r → y = some q → r.1 = q.1) (h : sameE x y = true) : x = y := by
  cases x with
  | none => cases y with
    | none => rfl
    | some q => cases h
  | some r => cases y with
    | none => cases h
    | some q =>
      have o1 := hx r rfl
      have o2 := hy q rfl
      have ek := hk r q rfl rfl
      have hf : ∀ f, f < 4 → r.2.1.testBit f = q.2.1.testBit f ∧ r.2.2 f = q.2.2 f := by
        intro f hf
        have h9 : sameL (some r) (some q) f = true := by
          simp [sameE] at h
          have : f = 0 ∨ f = 1 ∨ f = 2 ∨ f = 3 := by omega
          rcases this with rfl | rfl | rfl | rfl
          · exact h.1.1.1
          · exact h.1.1.2
          · exact h.1.2
          · exact h.2
        simpa [sameL, lvB, lvV] using h9
      have eb : r.2.1 = q.2.1 := bits_ext _ o1.2.1 _ o2.2.1 (fun g hg => (hf g hg).1)
      have ev : r.2.2 = q.2.2 := by
        funext f
        by_cases h4 : f < 4
        · exact (hf f h4).2
        · rw [o1.2.2 f (fun q => h4 q.1), o2.2.2 f (fun q => h4 q.1)]
      obtain ⟨a, b, c⟩ := r
      obtain ⟨a', b', c'⟩ := q
      simp only at ek eb ev
      rw [ek, eb, ev]
theorem allN_spec {p : Nat → Bool} : ∀ {d f : Nat}, allN p d f = true → ∀ i, f ≤ i → i < f + d → p i = true := by
  intro d
  induction d with
  | zero => intro f h i h1 h2; omega
  | succ d ih =>
    intro f h i h1 h2
    rw [allN, Bool.and_eq_true] at h
    by_cases hi : i = f
    · rw [hi]; exact h.1
    · exact ih h.2 i (by omega) (by omega)
theorem allN_true {p : Nat → Bool} : ∀ {d f : Nat}, (∀ i, f ≤ i → i < f + d → p i = true) → allN p d f = true := by
  intro d
  induction d with
  | zero => intro f _; rfl
  | succ d ih =>
    intro f h
    rw [allN, Bool.and_eq_true]
    exact ⟨h f (by omega) (by omega), ih (fun i h1 h2 => h i (by omega) (by omega))⟩
theorem sameLi_eq {R S : List Row} (hR : okL R) (hS : okL S) (h : sameLi R S = true) : R = S := by
  unfold sameLi at h
  rw [Bool.and_eq_true] at h
  have hlen : R.length = S.length := by simpa using h.1
  apply List.ext_getElem? 
  intro i
  by_cases hi : i < R.length
  · have h1 := allN_spec h.2 i (by omega) (by omega)
    unfold sameAt at h1
    rw [Bool.and_eq_true] at h1
    refine sameE_eq (fun r hr => hR.1 r (List.mem_of_getElem? hr)) (fun r hr => hS.1 r (List.mem_of_getElem? hr)) (fun r q hr hq => ?_) h1.2
    have := h1.1
    rw [hr, hq] at this
    simpa using this
  · rw [List.getElem?_eq_none (by omega), List.getElem?_eq_none (by omega)]
theorem sameLi_refl (R : List Row) : sameLi R R = true := by
  unfold sameLi
  rw [Bool.and_eq_true]
  refine ⟨by simp, allN_true (fun i _ _ => ?_)⟩
  unfold sameAt
  rw [sameE_refl]; simp
theorem sameS_eq {A B : ASet} (hA : okS A) (hB : okS B) (h : sameS A B = true) : ∀ l, l < 4 → A l = B l := fun l hl => sameLi_eq (hA l hl) (hB l hl) (allN_spec h l (by omega) (by omega))
theorem sameS_of {A B : ASet} (h : ∀ l, l < 4 → A l = B l) : sameS A B = true := allN_true (fun l _ hl => by rw [h l (by omega)]; exact sameLi_refl _)
/-- leaves f, f + 1, .. (d of them) copied from the rows src -/
def cpN (src : Nat → Option Row) : Nat → Nat → Row → Row
  | 0, _, r => r
  | d + 1, f, r => cpN src d (f + 1) (copyR r f (src f))
theorem copyR_key (r : Row) (f : Nat) (y : Option Row) : (copyR r f y).1 = r.1 := by unfold copyR; split <;> rfl
theorem copyR_bit {r : Row} {f : Nat} {y : Option Row} (hb : r.2.1 < 16) (hf : f < 4) : (copyR r f y).2.1 < 16 ∧ ∀ g, g < 4 → (copyR r f y).2.1.testBit g = (r.2.1.testBit g || (g == f && lvB y f)) := by
  unfold copyR
  split
  · rename_i h
    obtain ⟨-, h1, h2⟩ := bitGive r.2.1 hb f hf
    refine ⟨h1, fun g hg => ?_⟩
    rw [h, Bool.and_true]
    exact h2 g hg
  · rename_i h
    refine ⟨hb, fun g hg => ?_⟩
    rw [Bool.not_eq_true] at h
    rw [h]; simp
theorem copyR_val (r : Row) (f : Nat) (y : Option Row) (g : Nat) : (copyR r f y).2.2 g = if g = f ∧ lvB y f = true then lvV y f else r.2.2 g := by
  unfold copyR
  split
  · rename_i h
    show (if g = f then lvV y f else r.2.2 g) = _
    rw [h]
    by_cases hg : g = f
    · rw [if_pos hg, if_pos ⟨hg, rfl⟩]
    · rw [if_neg hg, if_neg (fun q => hg q.1)]
  · rename_i h
    rw [if_neg (fun q => h q.2)]
theorem cpN_spec {src : Nat → Option Row} : ∀ {d f : Nat} {r : Row}, f + d ≤ 4 → r.2.1 < 16 → (cpN src d f r).1 = r.1 ∧ (cpN src d f r).2.1 < 16 ∧ (∀ g, g < 4 → (cpN src d f r).2.1.testBit g = (r.2.1.testBit g || (decide (f ≤ g) && decide (g < f + d) && lvB (src g) g))) ∧ ∀ g, (cpN src d f r).2.2 g = if (f ≤ g ∧ g < f + d) ∧ lvB (src g) g = true then lvV (src g) g else r.2.2 g := by
  intro d
  induction d with
  | zero =>
    intro f r hf hb
    refine ⟨rfl, hb, fun g hg => ?_, fun g => ?_⟩
    · have : (decide (f ≤ g) && decide (g < f + 0)) = false := by
        rw [Bool.and_eq_false_iff]; by_cases h : f ≤ g
        · right; simp; omega
        · left; simp; omega
      rw [this]; simp [cpN]
    · rw [if_neg (fun q => by omega)]; rfl
  | succ d ih =>
    intro f r hf hb
    obtain ⟨b1, b2⟩ := copyR_bit (r := r) (y := src f) hb (show f < 4 by omega)
    obtain ⟨k1, k2, k3, k4⟩ := ih (f := f + 1) (r := copyR r f (src f)) (by omega) b1
    refine ⟨k1.trans (copyR_key _ _ _), k2, fun g hg => ?_, fun g => ?_⟩
    · rw [cpN, k3 g hg, b2 g hg]
      by_cases hgf : g = f
      · subst hgf
        have e1 : decide (g + 1 ≤ g) = false := by simp
        have e2 : decide (g < g + (d + 1)) = true := by simp
        rw [e1, e2]; simp
      · have e1 : (g == f) = false := by simpa using hgf
        have e2 : decide (f + 1 ≤ g) = decide (f ≤ g) := by simp; omega
        have e3 : decide (g < f + 1 + d) = decide (g < f + (d + 1)) := by simp; omega
        rw [e1, e2, e3]; simp
    · rw [cpN, k4 g, copyR_val]
      by_cases hgf : g = f
      · subst hgf
        rw [if_neg (fun q => by omega)]
        by_cases hl : lvB (src g) g = true
        · rw [if_pos ⟨rfl, hl⟩, if_pos ⟨by omega, hl⟩]
        · rw [if_neg (fun q => hl q.2), if_neg (fun q => hl q.2)]
      · rw [if_neg (fun q : g = f ∧ _ => hgf q.1)]
        by_cases hl : (f + 1 ≤ g ∧ g < f + 1 + d) ∧ lvB (src g) g = true
        · rw [if_pos hl, if_pos ⟨by omega, hl.2⟩]
        · rw [if_neg hl, if_neg (fun q => hl ⟨by omega, q.2⟩)]
theorem cpN_self {k : Nat} {w : Row} (hw : okR w) (hk : w.1 = k) : cpN (fun _ => some w) 4 0 (newR k) = w := by
  obtain ⟨k1, k2, k3, k4⟩ := cpN_spec (src := fun _ => some w) (d := 4) (f := 0) (r := newR k) (by omega) (by simp [newR])
  have eb : (cpN (fun _ => some w) 4 0 (newR k)).2.1 = w.2.1 := by
    refine bits_ext _ k2 _ hw.2.1 (fun g hg => ?_)
    rw [k3 g hg]
    have e1 : decide (0 ≤ g) = true := by simp
    have e2 : decide (g < 0 + 4) = true := by simp; omega
    rw [e1, e2]; simp [newR, lvB]
  have ev : (cpN (fun _ => some w) 4 0 (newR k)).2.2 = w.2.2 := by
    funext g
    rw [k4 g]
    by_cases hl : g < 4 ∧ w.2.1.testBit g = true
    · rw [if_pos ⟨by omega, hl.2⟩]; rfl
    · rw [if_neg (fun q => hl ⟨by omega, q.2⟩), hw.2.2 g hl]; rfl
  have e0 : (cpN (fun _ => some w) 4 0 (newR k)).1 = w.1 := by rw [k1, hk]; rfl
  exact Prod.ext e0 (Prod.ext eb ev)
theorem cpN_ok {k : Nat} {src : Nat → Option Row} (hk : k ≤ 100) : okR (cpN src 4 0 (newR k)) ∧ (cpN src 4 0 (newR k)).1 = k := by
  obtain ⟨k1, k2, k3, k4⟩ := cpN_spec (src := src) (d := 4) (f := 0) (r := newR k) (by omega) (by simp [newR])
  refine ⟨⟨by rw [k1]; exact hk, k2, fun f hf => ?_⟩, k1⟩
  rw [k4 f, if_neg]
  · rfl
  · intro q
    refine hf ⟨by omega, ?_⟩
    rw [k3 f (by omega), q.2]
    have e1 : decide (0 ≤ f) = true := by simp
    have e2 : decide (f < 0 + 4) = true := by simp; omega
    rw [e1, e2]; simp
theorem cpN_stop {src : Nat → Option Row} : ∀ {d f : Nat} {r : Row}, (∀ g, f ≤ g → g < f + d → lvB (src g) g = false) → cpN src d f r = r := by
  intro d
  induction d with
  | zero => intro f r _; rfl
  | succ d ih =>
    intro f r h
    rw [cpN]
    have : copyR r f (src f) = r := by unfold copyR; rw [h f (by omega) (by omega)]; rfl
    rw [this]
    exact ih (fun g h1 h2 => h g (by omega) (by omega))
theorem fstN_none {p : Nat → Bool} : ∀ {d f : Nat}, (∀ g, f ≤ g → g < f + d → p g = false) → fstN p d f = none := by
  intro d
  induction d with
  | zero => intro f _; rfl
  | succ d ih =>
    intro f h
    rw [fstN, h f (by omega) (by omega)]
    exact ih (fun g h1 h2 => h g (by omega) (by omega))
/-- the leaf f of the candidate x and of the running z clash over the base y -/
def clash (x y z : Option Row) (f : Nat) : Bool := !sameL x y f && (!sameL z y f && !sameL z x f)
def srcM (x y z : Option Row) (f : Nat) : Option Row := if sameL x y f then z else x
/-- the merge of one entry: a clash with its leaf, or what comes of it -/
def mrgO (k : Nat) (x y z : Option Row) : Int32 ⊕ Option Row :=
  if sameE x y then .inr z else if sameE z y then .inr x else match x, z with
  | none, none => .inr none
  | some _, some _ => match fstN (clash x y z) 4 0 with
    | some f => .inl (zN f)
    | none => .inr (some (cpN (srcM x y z) 4 0 (newR k)))
  | _, _ => .inl (-1)
def mrgL (X Y Z : List Row) : Nat → Nat → List Row → (Nat × Int32) ⊕ List Row
  | 0, _, acc => .inr acc
  | d + 1, k, acc => match mrgO k (lk X k) (lk Y k) (lk Z k) with
    | .inl p => .inl (k, p)
    | .inr none => mrgL X Y Z d (k + 1) acc
    | .inr (some r) => mrgL X Y Z d (k + 1) (acc ++ [r])
def mrgS (X Y Z : ASet) : Nat → Nat → Option Flt
  | 0, _ => none
  | d + 1, l => match mrgL (X l) (Y l) (Z l) 101 0 [] with
    | .inl w => some (0, zN l, zN w.1, w.2)
    | .inr _ => mrgS X Y Z d (l + 1)
def mrgA (X Y Z : ASet) : ASet := fun l => match mrgL (X l) (Y l) (Z l) 101 0 [] with
  | .inl _ => []
  | .inr R => R
theorem mrgO_none (k : Nat) (y : Option Row) : mrgO k none y none = .inr none := by
  unfold mrgO
  split
  · rfl
  · rfl
/-- rows with a key below k -/
def cnt (R : List Row) (k : Nat) : Nat := R.countP (fun r => decide (r.1 < k))
theorem cnt_le (R : List Row) (k : Nat) : cnt R k ≤ R.length := List.countP_le_length
theorem cnt_mono (R : List Row) {k j : Nat} (h : k ≤ j) : cnt R k ≤ cnt R j := by
  unfold cnt
  refine List.countP_mono_left (fun r _ hr => ?_)
  simp at hr ⊢; omega
theorem cnt_succ {R : List Row} {k : Nat} {r : Row} (h : r ∈ R) (hk : r.1 = k) : cnt R k + 1 ≤ cnt R (k + 1) := by
  induction R with
  | nil => cases h
  | cons a R ih =>
    unfold cnt at ih ⊢
    rw [List.countP_cons, List.countP_cons]
    rcases List.mem_cons.mp h with e | e
    · subst e
      rw [if_neg (by simp; omega), if_pos (by simp; omega)]
      have := cnt_mono R (show k ≤ k + 1 by omega)
      unfold cnt at this
      omega
    · have := ih e
      by_cases h1 : a.1 < k
      · rw [if_pos (by simpa using h1), if_pos (by simp; omega)]; omega
      · rw [if_neg (by simpa using h1)]
        split <;> omega
theorem mrgO_row {k : Nat} {x y z : Option Row} {r : Row} (hx : ∀ r, x = some r → okR r ∧ r.1 = k) (hz : ∀ r, z = some r → okR r ∧ r.1 = k) (hk : k ≤ 100) (h : mrgO k x y z = .inr (some r)) : okR r ∧ r.1 = k ∧ (x.isSome = true ∨ z.isSome = true) := by
  unfold mrgO at h
  split at h
  · have h : z = some r := Sum.inr.inj h
    exact ⟨(hz r h).1, (hz r h).2, Or.inr (by rw [h]; rfl)⟩
  · split at h
    · have h : x = some r := Sum.inr.inj h
      exact ⟨(hx r h).1, (hx r h).2, Or.inl (by rw [h]; rfl)⟩
    · split at h
      · cases h
      · split at h
        · cases h
        · have h := Option.some.inj (Sum.inr.inj h)
          rw [← h]
          exact ⟨(cpN_ok hk).1, (cpN_ok hk).2, Or.inl rfl⟩
      · cases h
/-- what the rows of a merge keep while it goes on -/
def accOK (X Z acc : List Row) (k : Nat) : Prop := okL acc ∧ (∀ r ∈ acc, r.1 < k) ∧ acc.length ≤ cnt X k + cnt Z k
theorem accOK.next {X Z acc : List Row} {k : Nat} (h : accOK X Z acc k) : accOK X Z acc (k + 1) := by
  have h1 := cnt_mono X (show k ≤ k + 1 by omega)
  have h2 := cnt_mono Z (show k ≤ k + 1 by omega)
  exact ⟨h.1, fun r hr => Nat.lt_succ_of_lt (h.2.1 r hr), by have := h.2.2; omega⟩
theorem accOK.skip {X Z acc : List Row} {k j : Nat} (h : accOK X Z acc k) (hj : k ≤ j) : accOK X Z acc j := by
  have h1 := cnt_mono X hj
  have h2 := cnt_mono Z hj
  exact ⟨h.1, fun r hr => Nat.lt_of_lt_of_le (h.2.1 r hr) hj, by have := h.2.2; omega⟩
theorem isSome_lk {R : List Row} (h : okL R) {k : Nat} (hk : k < 2147483648) (hs : (lk R k).isSome = true) : cnt R k + 1 ≤ cnt R (k + 1) := by
  obtain ⟨r, hr⟩ := Option.isSome_iff_exists.mp hs
  obtain ⟨a, -, b, -⟩ := lk_spec h hk hr
  exact cnt_succ b a
theorem accOK.room {X Y Z acc : List Row} {k : Nat} {r : Row} (h : accOK X Z acc k) (hX : okL X) (hZ : okL Z) (h6 : X.length ≤ 6 ∧ Z.length ≤ 6) (hk : k ≤ 100) (hm : mrgO k (lk X k) (lk Y k) (lk Z k) = .inr (some r)) : acc.length < 12 ∧ okR r ∧ r.1 = k ∧ accOK X Z (acc ++ [r]) (k + 1) := by
  have b1 := cnt_le X (k + 1)
  have b2 := cnt_le Z (k + 1)
  have m1 := cnt_mono X (show k ≤ k + 1 by omega)
  have m2 := cnt_mono Z (show k ≤ k + 1 by omega)
  obtain ⟨g1, g2, g3⟩ := mrgO_row (fun r hr => ⟨lk_ok hX k (by omega) r hr, (lk_spec hX (by omega) hr).1⟩) (fun r hr => ⟨lk_ok hZ k (by omega) r hr, (lk_spec hZ (by omega) hr).1⟩) hk hm
  have h3 := h.2.2
  have hlt : acc.length + 1 ≤ cnt X (k + 1) + cnt Z (k + 1) := by
    rcases g3 with g3 | g3
    · have := isSome_lk hX (by omega) g3; omega
    · have := isSome_lk hZ (by omega) g3; omega
  refine ⟨by omega, g1, g2, ⟨⟨fun q hq => ?_, ?_, ?_⟩, fun q hq => ?_, ?_⟩⟩
  · rcases List.mem_append.mp hq with hq | hq
    · exact h.1.1 q hq
    · rw [List.mem_singleton.mp hq]; exact g1
  · rw [List.pairwise_append]
    refine ⟨h.1.2.1, List.pairwise_singleton _ _, fun a ha b hb => ?_⟩
    rw [List.mem_singleton.mp hb, g2]
    exact h.2.1 a ha
  · rw [List.length_append, List.length_singleton]; omega
  · rcases List.mem_append.mp hq with hq | hq
    · have := h.2.1 q hq; omega
    · rw [List.mem_singleton.mp hq]; omega
  · rw [List.length_append, List.length_singleton]; omega
theorem insP_end {R : List Row} {k : Nat} (h : ∀ r ∈ R, r.1 < k) : insP R k R.length = R.length := by
  cases hl : R.length with
  | zero => rfl
  | succ n =>
    unfold insP
    have hr : R[n]? = some R[n] := List.getElem?_eq_getElem (by omega)
    rw [hr]
    have := h R[n] (List.getElem_mem _)
    simp only
    rw [if_pos (by omega)]
theorem insL_end {R : List Row} {k : Nat} (h : ∀ r ∈ R, r.1 < k) : insL R k = R ++ [newR k] := by
  unfold insL
  rw [insP_end h]
  simp
theorem kaft_gap {R : List Row} (h : okL R) {j : Int} {r : Row} (hr : r ∈ R) (hj : j < (r.1 : Int)) : kaft R j ≤ r.1 := by
  obtain ⟨-, hp, -⟩ := h
  unfold kaft
  induction R with
  | nil => cases hr
  | cons a R ih =>
    by_cases ha : j < (a.1 : Int)
    · rw [List.find?_cons_of_pos (by simpa using ha)]
      show a.1 ≤ r.1
      rcases List.mem_cons.mp hr with e | e
      · rw [e]; omega
      · have := (List.pairwise_cons.mp hp).1 r e; omega
    · rw [List.find?_cons_of_neg (by simpa using ha)]
      rcases List.mem_cons.mp hr with e | e
      · rw [e] at hj; exact (ha hj).elim
      · exact ih e (List.pairwise_cons.mp hp).2
theorem kaft_mem {R : List Row} {j : Int} (h : kaft R j ≠ 101) : ∃ r ∈ R, r.1 = kaft R j ∧ j < (r.1 : Int) := by
  unfold kaft at h ⊢
  cases hf : R.find? (fun r => decide (j < (r.1 : Int))) with
  | none => rw [hf] at h; exact (h rfl).elim
  | some r => exact ⟨r, List.mem_of_find?_eq_some hf, rfl, by simpa using List.find?_some hf⟩
theorem kaft2_le {X Z : List Row} (hX : okL X) (j : Int) : kaft2 X Z j ≤ 101 := by
  have := kaft_le hX j
  exact Nat.le_trans (Nat.min_le_left _ _) this
theorem kaft_ge {R : List Row} {k : Nat} (hk : k ≤ 101) : k ≤ kaft R ((k : Int) - 1) := by
  by_cases h : kaft R ((k : Int) - 1) = 101
  · omega
  · obtain ⟨r, -, e, g⟩ := kaft_mem h; omega
theorem kaft2_ge {X Z : List Row} {k : Nat} (hk : k ≤ 101) : k ≤ kaft2 X Z ((k : Int) - 1) := by
  unfold kaft2
  exact Nat.le_min.mpr ⟨kaft_ge hk, kaft_ge hk⟩
theorem kaft2_gap {X Z : List Row} (hX : okL X) (hZ : okL Z) {k i : Nat} (h1 : k ≤ i) (h2 : i < kaft2 X Z ((k : Int) - 1)) : lk X i = none ∧ lk Z i = none := by
  have l1 : kaft2 X Z ((k : Int) - 1) ≤ kaft X ((k : Int) - 1) := Nat.min_le_left _ _
  have l2 : kaft2 X Z ((k : Int) - 1) ≤ kaft Z ((k : Int) - 1) := Nat.min_le_right _ _
  have l3 := kaft_le hX ((k : Int) - 1)
  refine ⟨lk_none (fun r hr e => ?_) hX (by omega), lk_none (fun r hr e => ?_) hZ (by omega)⟩
  · have := kaft_gap hX (j := (k : Int) - 1) hr (by omega); omega
  · have := kaft_gap hZ (j := (k : Int) - 1) hr (by omega); omega
theorem kaft2_mem {X Z : List Row} (hX : okL X) (hZ : okL Z) {j : Int} (h : kaft2 X Z j ≠ 101) : (lk X (kaft2 X Z j)).isSome = true ∨ (lk Z (kaft2 X Z j)).isSome = true := by
  have b1 := kaft_le hX j
  have b2 := kaft_le hZ j
  by_cases hle : kaft X j ≤ kaft Z j
  · have e : kaft2 X Z j = kaft X j := Nat.min_eq_left hle
    rw [e] at h ⊢
    obtain ⟨r, hr, e, -⟩ := kaft_mem h
    obtain ⟨i, hi⟩ := List.mem_iff_getElem?.mp hr
    exact Or.inl (by rw [lk_some hX hi e]; rfl)
  · have e : kaft2 X Z j = kaft Z j := Nat.min_eq_right (by omega)
    rw [e] at h ⊢
    obtain ⟨r, hr, e, -⟩ := kaft_mem h
    obtain ⟨i, hi⟩ := List.mem_iff_getElem?.mp hr
    exact Or.inr (by rw [lk_some hZ hi e]; rfl)
theorem mrgL_skip {X Y Z : List Row} {d : Nat} {acc : List Row} : ∀ {n k : Nat}, (∀ i, k ≤ i → i < k + n → lk X i = none ∧ lk Z i = none) → mrgL X Y Z (d + n) k acc = mrgL X Y Z d (k + n) acc := by
  intro n
  induction n with
  | zero => intro k _; rfl
  | succ n ih =>
    intro k h
    obtain ⟨h1, h2⟩ := h k (by omega) (by omega)
    rw [show d + (n + 1) = (d + n) + 1 by omega, mrgL, h1, h2, mrgO_none]
    show mrgL X Y Z (d + n) (k + 1) acc = _
    rw [ih (fun i a b => h i (by omega) (by omega))]
    congr 1; omega
theorem mrgL_jump {X Y Z : List Row} (hX : okL X) (hZ : okL Z) {acc : List Row} {k : Nat} (hk : k ≤ 101) : mrgL X Y Z (101 - k) k acc = mrgL X Y Z (101 - kaft2 X Z ((k : Int) - 1)) (kaft2 X Z ((k : Int) - 1)) acc := by
  have h1 := kaft2_ge (X := X) (Z := Z) hk
  have h2 := kaft2_le (Z := Z) hX ((k : Int) - 1)
  have := mrgL_skip (X := X) (Y := Y) (Z := Z) (d := 101 - kaft2 X Z ((k : Int) - 1)) (acc := acc) (n := kaft2 X Z ((k : Int) - 1) - k) (k := k) (fun i a b => kaft2_gap hX hZ a (by omega))
  rw [show 101 - kaft2 X Z ((k : Int) - 1) + (kaft2 X Z ((k : Int) - 1) - k) = 101 - k by omega, show k + (kaft2 X Z ((k : Int) - 1) - k) = kaft2 X Z ((k : Int) - 1) by omega] at this
  exact this
theorem outS.isRow {M M' : sdM} {o o2 : Nat} {p : Int32} {x : Option Row} (h : outS M M' o) (hd : o + 5 ≤ o2 ∨ o2 + 5 ≤ o) (hx : isRow M o2 p x) : isRow M' o2 p x := by
  rcases hx with ⟨rfl, rfl⟩ | ⟨n, r, hn, rfl, rfl, hr, hok⟩
  · exact Or.inl ⟨rfl, rfl⟩
  · exact Or.inr ⟨n, r, hn, rfl, rfl, ⟨by rw [h _ (by omega)]; exact hr.1, by rw [h _ (by omega)]; exact hr.2.1, fun f hf => by rw [h _ (by omega)]; exact hr.2.2 f hf⟩, hok⟩
theorem RowTo.tr {M M' M'' : sdM} {o p : Nat} {r q : Row} (h : RowTo M M' o p r) (h' : RowTo M' M'' o p q) : RowTo M M'' o p q := ⟨h.out.tr h'.out, h'.cnt.trans h.cnt, h'.here, fun c x h1 h2 => h'.oth c x h1 (h.oth c x h1 h2), fun g => h'.g (h.g g)⟩
theorem RowTo.app {M M' : sdM} {o l : Nat} {R : List Row} {q r : Row} (h : RowTo M M' o (12 * l + R.length) r) (hR : RCl M o l (R ++ [q])) : RCl M' o l (R ++ [r]) := by
  refine ⟨by rw [h.cnt, hR.1]; simp, fun i x hx => ?_⟩
  by_cases hi : i < R.length
  · rw [List.getElem?_append_left hi] at hx
    exact h.oth _ x (by omega) (hR.2 i x (by rw [List.getElem?_append_left hi]; exact hx))
  · rw [List.getElem?_append_right (by omega)] at hx
    have h0 : i - R.length = 0 := by
      have := (List.getElem?_eq_some_iff.mp hx).1
      simp at this; omega
    rw [h0] at hx
    have : r = x := by simpa using hx
    rw [← this, show i = R.length by omega]
    exact h.here
theorem p_take_loop {o ca ba ru ou tr p o3 : Nat} {M1 : sdM} {p2 : Int32} {y : Option Row} {Q : sdM → Prop} (hp : p < 48) (hd : ou + 5 ≤ o3 ∨ o3 + 5 ≤ ou) (hy : isRow M1 o3 p2 y) : ∀ (d f : Nat) (M : sdM) (r : Row), f + d = 4 → r.2.1 < 16 → RowTo M1 M ou p r → (∀ M', RowTo M1 M' ou p (cpN (fun _ => y) d f r) → Q M') → h_G_takeEntry_21 o ca ba ru ou tr Q (d + 1) M o3 p2 (zN p) (zN f) := by
  intro d
  induction d with
  | zero =>
    intro f M r hf hb h hq
    have : f = 4 := by omega
    subst this
    exact ⟨fun _ => hq M h, fun h => (h (by decide)).elim⟩
  | succ d ih =>
    intro f M r hf hb h hq
    refine ⟨fun h => ?_, fun _ => ?_⟩
    · rw [show (4 : Int32) = zN 4 from rfl, zN_le (by decide) (by omega)] at h; omega
    · refine p_copyLeaf hp (by omega) h.here hb (h.out.isRow hd hy) (fun M' hm => ?_)
      rw [show zN f + 1 = zN (f + 1) from zN_add f 1]
      exact ih (f + 1) M' _ (by omega) (copyR_bit hb (by omega)).1 (h.tr hm) hq
theorem p_takeEntry {o ca ba ru ou tr l k o3 : Nat} {M : sdM} {p2 : Int32} {y : Option Row} {R : List Row} {Q : sdM → Prop} (hl : l < 4) (hk : k ≤ 100) (hd : ou + 5 ≤ o3 ∨ o3 + 5 ≤ ou) (hy : isRow M o3 p2 y) (hyk : ∀ r, y = some r → r.1 = k) (hR : RCl M ou l R) (hok : okL R) (hlt : y.isSome = true → R.length < 12) (hlow : ∀ r ∈ R, r.1 < k) (hg : gOK M ou)
    (h0 : y = none → Q M) (h1 : ∀ r M', y = some r → outS M M' ou → RCl M' ou l (R ++ [r]) → othL M M' ou l → gOK M' ou → Q M') : w_G_takeEntry o ca ba ru ou tr M (zN l) (zN k) o3 p2 Q := by
  refine ⟨fun hn => ?_, fun he => ?_⟩
  · cases y with
    | none =>
      rcases hy with ⟨rfl, -⟩ | ⟨n, r, hn, rfl, e, hr, hok⟩
      · exact (hn rfl).elim
      · cases e
    | some w =>
      have hw := hy.ok w rfl
      have hlen := hlt rfl
      refine p_addEntry hl hR hok hlen hk hg (fun M' a1 a2 a3 a4 => ⟨4 + 1, ?_⟩)
      rw [insP_end hlow]
      rw [insL_end hlow] at a2
      have hrow : rowAt M' ou (12 * l + R.length) (newR k) := a2.2 R.length (newR k) (by simp)
      refine p_take_loop (by omega) hd (a1.isRow hd hy) 4 0 M' (newR k) rfl (by simp [newR]) ⟨outS.rf _ _, rfl, hrow, fun _ _ _ h => h, fun h => h⟩ (fun M2 h2 => ?_)
      rw [cpN_self hw (hyk w rfl)] at h2
      exact h1 w M2 rfl (a1.tr h2.out) (h2.app a2) (a3.tr (h2.kept (by omega)).oth) (h2.g a4)
  · refine h0 ?_
    rcases hy with ⟨-, rfl⟩ | ⟨n, r, hn, e, -, hr, hok⟩
    · rfl
    · rw [he] at e; exact (zN_m1 (by omega) e.symm).elim
theorem p_leaves_loop {o ca ba ru ou tr l k p : Nat} {M1 : sdM} {pm po pt : Int32} {x y z : Option Row} {Q : Int32 → sdM → Prop} (hp : p < 48) (d1 : ou + 5 ≤ ca ∨ ca + 5 ≤ ou) (d2 : ou + 5 ≤ ba ∨ ba + 5 ≤ ou) (d3 : ou + 5 ≤ ru ∨ ru + 5 ≤ ou) (hx : isRow M1 ca pm x) (hy : isRow M1 ba po y) (hz : isRow M1 ru pt z) : ∀ (d f : Nat) (M : sdM) (r : Row), f + d = 4 → r.2.1 < 16 → RowTo M1 M ou p r → (fstN (clash x y z) d f = none → ∀ M', RowTo M1 M' ou p (cpN (srcM x y z) d f r) → Q 1 M') → (∀ f' M' r', fstN (clash x y z) d f = some f' → RowTo M1 M' ou p r' → Q 0 (noted M' tr (0, zN l, zN k, zN f'))) → h_G_mergesLeaves_14 o ca ba ru ou tr Q (d + 1) M (zN l) (zN k) pm po pt (zN p) (zN f) := by
  intro d
  induction d with
  | zero =>
    intro f M r hf hb h h0 h1
    have : f = 4 := by omega
    subst this
    exact ⟨fun _ => ⟨Or.inr rfl, h0 rfl M h⟩, fun h => (h (by decide)).elim⟩
  | succ d ih =>
    intro f M r hf hb h h0 h1
    have x' := h.out.isRow d1 hx
    have y' := h.out.isRow d2 hy
    have z' := h.out.isRow d3 hz
    have go : ∀ M' w, clash x y z f = false → srcM x y z f = w → RowTo M M' ou p (copyR r f w) → h_G_mergesLeaves_14 o ca ba ru ou tr Q (d + 1) M' (zN l) (zN k) pm po pt (zN p) (zN f + 1) := by
      intro M' w hc hs hm
      rw [show zN f + 1 = zN (f + 1) from zN_add f 1]
      refine ih (f + 1) M' _ (by omega) (copyR_bit hb (by omega)).1 (h.tr hm) (fun g M2 h2 => h0 ?_ M2 ?_) (fun f' M2 r' g h2 => h1 f' M2 r' ?_ h2)
      · rw [fstN, hc]; exact g
      · rw [cpN, hs]; exact h2
      · rw [fstN, hc]; exact g
    refine ⟨fun h => ?_, fun _ => ?_⟩
    · rw [show (4 : Int32) = zN 4 from rfl, zN_le (by decide) (by omega)] at h; omega
    · refine p_sameLeaf x' y' (by omega) ⟨fun g => ?_, fun g => ?_⟩
      · have e1 := bI_0.mp g
        refine p_sameLeaf z' y' (by omega) ⟨fun g2 => ?_, fun g2 => ?_⟩
        · exact p_copyLeaf hp (by omega) h.here hb x' (fun M' hm => go M' x (by simp [clash, bI_1.mp g2]) (by simp [srcM, e1]) hm)
        · have e2 := bI_0.mp g2
          refine p_sameLeaf z' x' (by omega) ⟨fun g3 => ?_, fun g3 => ?_⟩
          · exact p_note ⟨Or.inl rfl, h1 f M r (by rw [fstN, show clash x y z f = true by simp [clash, e1, e2, bI_0.mp g3]]; rfl) h⟩
          · exact p_copyLeaf hp (by omega) h.here hb x' (fun M' hm => go M' x (by simp [clash, bI_1.mp g3]) (by simp [srcM, e1]) hm)
      · have e1 := bI_1.mp g
        exact p_copyLeaf hp (by omega) h.here hb z' (fun M' hm => go M' z (by simp [clash, e1]) (by simp [srcM, e1]) hm)
theorem isRow.none {M : sdM} {o : Nat} {p : Int32} {x : Option Row} (h : isRow M o p x) : p = -1 ↔ x = none := by
  rcases h with ⟨rfl, rfl⟩ | ⟨n, r, hn, rfl, rfl, hr, hok⟩
  · exact ⟨fun _ => rfl, fun _ => rfl⟩
  · exact ⟨fun e => (zN_m1 (by omega) e).elim, fun e => by cases e⟩
/-- the merge of an entry of the class: the outcome's rows before it are R -/
theorem p_mergesEntry {o ca ba ru ou tr l k : Nat} {M : sdM} {X Y Z R : List Row} {Q : Int32 → sdM → Prop} (d1 : ou + 5 ≤ ca ∨ ca + 5 ≤ ou) (d2 : ou + 5 ≤ ba ∨ ba + 5 ≤ ou) (d3 : ou + 5 ≤ ru ∨ ru + 5 ≤ ou) (hl : l < 4) (hk : k ≤ 100)
    (hX : RCl M ca l X) (hY : RCl M ba l Y) (hZ : RCl M ru l Z) (oX : okL X) (oY : okL Y) (oZ : okL Z) (h6 : X.length ≤ 6 ∧ Z.length ≤ 6) (hin : (lk X k).isSome = true ∨ (lk Z k).isSome = true) (hR : RCl M ou l R) (hacc : accOK X Z R k) (hg : gOK M ou)
    (h0 : ∀ p M', mrgO k (lk X k) (lk Y k) (lk Z k) = .inl p → outS M M' ou → gOK M' ou → Q 0 (noted M' tr (0, zN l, zN k, p)))
    (h1 : ∀ v M', mrgO k (lk X k) (lk Y k) (lk Z k) = .inr v → outS M M' ou → RCl M' ou l (R ++ v.toList) → othL M M' ou l → gOK M' ou → Q 1 M') :
    w_G_mergesEntry o ca ba ru ou tr M (zN l) (zN k) Q := by
  refine p_rowOf hl hX oX.2.2 (p_rowOf hl hY oY.2.2 (p_rowOf hl hZ oZ.2.2 ?_))
  have x' : isRow M ca (rowI (12 * l) (fi X (zN k))) (lk X k) := hX.found oX hl
  have y' : isRow M ba (rowI (12 * l) (fi Y (zN k))) (lk Y k) := hY.found oY hl
  have z' : isRow M ru (rowI (12 * l) (fi Z (zN k))) (lk Z k) := hZ.found oZ hl
  have kx : ∀ r, lk X k = some r → r.1 = k := fun r hr => (lk_spec oX (by omega) hr).1
  have kz : ∀ r, lk Z k = some r → r.1 = k := fun r hr => (lk_spec oZ (by omega) hr).1
  have room : ∀ r, mrgO k (lk X k) (lk Y k) (lk Z k) = .inr (some r) → R.length < 12 := fun r hr => (hacc.room oX oZ h6 hk hr).1
  have keep : mrgO k (lk X k) (lk Y k) (lk Z k) = .inr none → Q 1 M := fun e => h1 none M e (outS.rf _ _) (by simpa using hR) (fun _ _ _ _ _ h => h) hg
  refine p_sameEntry x' y' ⟨fun g => ?_, fun g => ?_⟩
  · have e1 := bI_0.mp g
    refine p_sameEntry z' y' ⟨fun g2 => ?_, fun g2 => ?_⟩
    · have e2 := bI_0.mp g2
      have cl : ∀ p, mrgO k (lk X k) (lk Y k) (lk Z k) = .inl p → Q 0 (noted M tr (0, zN l, zN k, p)) := fun p e => h0 p M e (outS.rf _ _) hg
      rw [x'.none, z'.none]
      refine ⟨fun nx => ?_, fun sx => ⟨fun sz => ?_, fun nz => ?_⟩⟩
      · refine p_note ⟨Or.inl rfl, cl (-1) ?_⟩
        rw [nx] at hin e1 ⊢
        cases ez : lk Z k with
        | none => rw [ez] at hin; simp at hin
        | some c => rw [ez] at e2; unfold mrgO; rw [e1, e2]; rfl
      · cases ex : lk X k with
        | none => exact (sx ex).elim
        | some a =>
        cases ez : lk Z k with
        | none => exact (sz ez).elim
        | some c =>
        rw [ex] at e1
        rw [ez] at e2
        have em : mrgO k (lk X k) (lk Y k) (lk Z k) = match fstN (clash (lk X k) (lk Y k) (lk Z k)) 4 0 with
            | some f => .inl (zN f)
            | none => .inr (some (cpN (srcM (lk X k) (lk Y k) (lk Z k)) 4 0 (newR k))) := by
          rw [ex, ez]; unfold mrgO; rw [e1, e2]; rfl
        have hlt : R.length < 12 := by
          have b1 := cnt_le X (k + 1)
          have b2 := cnt_le Z (k + 1)
          have m1 := isSome_lk oX (k := k) (by omega) (by rw [ex]; rfl)
          have m2 := cnt_mono Z (show k ≤ k + 1 by omega)
          have := hacc.2.2
          omega
        refine p_addEntry hl hR hacc.1 hlt hk hg (fun M' a1 a2 a3 a4 => ⟨4 + 1, ?_⟩)
        rw [insP_end hacc.2.1]
        rw [insL_end hacc.2.1] at a2
        have hrow : rowAt M' ou (12 * l + R.length) (newR k) := a2.2 R.length (newR k) (by simp)
        refine p_leaves_loop (by omega) d1 d2 d3 (a1.isRow d1 x') (a1.isRow d2 y') (a1.isRow d3 z') 4 0 M' (newR k) rfl (by simp [newR]) ⟨outS.rf _ _, rfl, hrow, fun _ _ _ h => h, fun h => h⟩ (fun hc M2 h2 => ⟨Or.inr rfl, ?_⟩) (fun f' M2 r' hc h2 => ⟨Or.inl rfl, ?_⟩)
        · rw [hc] at em
          exact h1 _ M2 em (a1.tr h2.out) (h2.app a2) (a3.tr (h2.kept (by omega)).oth) (h2.g a4)
        · rw [hc] at em
          exact h0 _ M2 em (a1.tr h2.out) (h2.g a4)
      · refine p_note ⟨Or.inl rfl, cl (-1) ?_⟩
        rw [nz] at e2 ⊢
        cases ex : lk X k with
        | none => exact (sx ex).elim
        | some c => rw [ex] at e1; unfold mrgO; rw [e1, e2]; rfl
    · have e2 := bI_1.mp g2
      have em : mrgO k (lk X k) (lk Y k) (lk Z k) = .inr (lk X k) := by unfold mrgO; rw [e1, e2]; rfl
      refine p_takeEntry hl hk d1 x' kx hR hacc.1 (fun hs => ?_) hacc.2.1 hg (fun hn => ⟨Or.inr rfl, keep (by rw [em, hn])⟩) (fun r M' hr b1 b2 b3 b4 => ⟨Or.inr rfl, h1 (some r) M' (by rw [em, hr]) b1 b2 b3 b4⟩)
      obtain ⟨r, hr⟩ := Option.isSome_iff_exists.mp hs
      exact room r (by rw [em, hr])
  · have e1 := bI_1.mp g
    have em : mrgO k (lk X k) (lk Y k) (lk Z k) = .inr (lk Z k) := by unfold mrgO; rw [e1]; rfl
    refine p_takeEntry hl hk d3 z' kz hR hacc.1 (fun hs => ?_) hacc.2.1 hg (fun hn => ⟨Or.inr rfl, keep (by rw [em, hn])⟩) (fun r M' hr b1 b2 b3 b4 => ⟨Or.inr rfl, h1 (some r) M' (by rw [em, hr]) b1 b2 b3 b4⟩)
    obtain ⟨r, hr⟩ := Option.isSome_iff_exists.mp hs
    exact room r (by rw [em, hr])
theorem outS.RCl {M M' : sdM} {o o2 l : Nat} {R : List Row} (h : outS M M' o) (hd : o + 5 ≤ o2 ∨ o2 + 5 ≤ o) (hA : RCl M o2 l R) : RCl M' o2 l R := by
  obtain ⟨h1, h2⟩ := hA
  refine ⟨by rw [h _ (by omega)]; exact h1, fun i r hr => ?_⟩
  obtain ⟨g1, g2, g3⟩ := h2 i r hr
  exact ⟨by rw [h _ (by omega)]; exact g1, by rw [h _ (by omega)]; exact g2, fun f hf => by rw [h _ (by omega)]; exact g3 f hf⟩
theorem zK_nat (k : Nat) : zK (k : Int) = zN k := by
  unfold zK
  rw [if_neg (by omega)]; simp
theorem p_mergesList_loop {o ca ba ru ou tr l : Nat} {M0 : sdM} {X Y Z : List Row} {Q : Int32 → sdM → Prop} (d1 : ou + 5 ≤ ca ∨ ca + 5 ≤ ou) (d2 : ou + 5 ≤ ba ∨ ba + 5 ≤ ou) (d3 : ou + 5 ≤ ru ∨ ru + 5 ≤ ou) (hl : l < 4)
    (hX : RCl M0 ca l X) (hY : RCl M0 ba l Y) (hZ : RCl M0 ru l Z) (oX : okL X) (oY : okL Y) (oZ : okL Z) (h6 : X.length ≤ 6 ∧ Z.length ≤ 6) : ∀ (n step k : Nat) (M : sdM) (R : List Row), n + step = 12 → k ≤ 101 → step ≤ cnt X k + cnt Z k → accOK X Z R k → outS M0 M ou → RCl M ou l R → othL M0 M ou l → gOK M ou →
    (∀ w M', mrgL X Y Z (101 - k) k R = .inl w → outS M0 M' ou → gOK M' ou → Q 0 (noted M' tr (0, zN l, zN w.1, w.2))) →
    (∀ R' M', mrgL X Y Z (101 - k) k R = .inr R' → outS M0 M' ou → RCl M' ou l R' → okL R' → othL M0 M' ou l → gOK M' ou → Q 1 M') →
    h_G_mergesList_16 o ca ba ru ou tr Q (n + 1) M (zN l) (zN (kaft2 X Z ((k : Int) - 1))) (zN step) := by
  intro n
  induction n with
  | zero =>
    intro step k M R hn hk hst hacc hout hR hoth hg h0 h1
    have hs : step = 12 := by omega
    subst hs
    have b2 := kaft2_le (Z := Z) oX ((k : Int) - 1)
    have b1 := kaft2_ge (X := X) (Z := Z) hk
    rw [mrgL_jump oX oZ hk] at h0 h1
    have e : kaft2 X Z ((k : Int) - 1) = 101 := by
      refine Classical.byContradiction fun hne => ?_
      have m1 := cnt_mono X b1
      have m2 := cnt_mono Z b1
      have c1 := cnt_mono X (show kaft2 X Z ((k : Int) - 1) ≤ kaft2 X Z ((k : Int) - 1) + 1 by omega)
      have c2 := cnt_mono Z (show kaft2 X Z ((k : Int) - 1) ≤ kaft2 X Z ((k : Int) - 1) + 1 by omega)
      have u1 := cnt_le X (kaft2 X Z ((k : Int) - 1) + 1)
      have u2 := cnt_le Z (kaft2 X Z ((k : Int) - 1) + 1)
      rcases kaft2_mem oX oZ hne with hm | hm
      · have := isSome_lk oX (by omega) hm; omega
      · have := isSome_lk oZ (by omega) hm; omega
    rw [e] at h1
    exact ⟨fun _ => ⟨Or.inr rfl, h1 R M rfl hout hR hacc.1 hoth hg⟩, fun h => (h (by decide)).elim⟩
  | succ n ih =>
    intro step k M R hn hk hst hacc hout hR hoth hg h0 h1
    have b2 := kaft2_le (Z := Z) oX ((k : Int) - 1)
    have b1 := kaft2_ge (X := X) (Z := Z) hk
    rw [mrgL_jump oX oZ hk] at h0 h1
    have m1 := cnt_mono X b1
    have m2 := cnt_mono Z b1
    have hacc := hacc.skip b1
    have hin := kaft2_mem oX oZ (j := (k : Int) - 1)
    generalize kaft2 X Z ((k : Int) - 1) = q at *
    refine ⟨fun h => ?_, fun _ => ⟨fun e => ?_, fun hne => ?_⟩⟩
    · rw [show (12 : Int32) = zN 12 from rfl, zN_le (by decide) (by omega)] at h; omega
    · rw [show (101 : Int32) = zN 101 from rfl, zN_eq (by omega) (by omega)] at e
      rw [e] at h1
      exact ⟨Or.inr rfl, h1 R M rfl hout hR hacc.1 hoth hg⟩
    · rw [show (101 : Int32) = zN 101 from rfl, zN_eq (by omega) (by omega)] at hne
      have hin := hin hne
      have c1 := cnt_mono X (show q ≤ q + 1 by omega)
      have c2 := cnt_mono Z (show q ≤ q + 1 by omega)
      have hst2 : step + 1 ≤ cnt X (q + 1) + cnt Z (q + 1) := by
        rcases hin with hm | hm
        · have := isSome_lk oX (by omega) hm; omega
        · have := isSome_lk oZ (by omega) hm; omega
      rw [show 101 - q = (101 - (q + 1)) + 1 by omega, mrgL] at h0 h1
      refine p_mergesEntry d1 d2 d3 hl (by omega) (hout.RCl d1 hX) (hout.RCl d2 hY) (hout.RCl d3 hZ) oX oY oZ h6 hin hR hacc hg (fun p M' e a1 a2 => ?_) (fun v M' e a1 a2 a3 a4 => ?_)
      · rw [e] at h0
        exact ⟨fun h => absurd rfl h, fun _ => ⟨Or.inl rfl, h0 _ M' rfl (hout.tr a1) a2⟩⟩
      · refine ⟨fun _ => ?_, fun h => absurd h (by decide)⟩
        have hout' := hout.tr a1
        rw [← zK_nat q]
        refine p_keyAfterInEither hl (hout'.RCl d1 hX) (hout'.RCl d3 hZ) oX oZ ⟨by omega, by omega⟩ ?_
        rw [show zN step + 1 = zN (step + 1) from zN_add step 1, show (q : Int) = ((q + 1 : Nat) : Int) - 1 by omega]
        rw [e] at h0 h1
        cases v with
        | none =>
          exact ih (step + 1) (q + 1) M' R (by omega) (by omega) hst2 hacc.next hout' (by simpa using a2) (hoth.tr a3) a4 h0 h1
        | some r =>
          exact ih (step + 1) (q + 1) M' (R ++ [r]) (by omega) (by omega) hst2 (hacc.room oX oZ h6 (by omega) e).2.2.2 hout' a2 (hoth.tr a3) a4 h0 h1
theorem p_mergesList {o ca ba ru ou tr l : Nat} {M : sdM} {X Y Z : List Row} {Q : Int32 → sdM → Prop} (d1 : ou + 5 ≤ ca ∨ ca + 5 ≤ ou) (d2 : ou + 5 ≤ ba ∨ ba + 5 ≤ ou) (d3 : ou + 5 ≤ ru ∨ ru + 5 ≤ ou) (hl : l < 4)
    (hX : RCl M ca l X) (hY : RCl M ba l Y) (hZ : RCl M ru l Z) (oX : okL X) (oY : okL Y) (oZ : okL Z) (h6 : X.length ≤ 6 ∧ Z.length ≤ 6) (hR : RCl M ou l []) (hg : gOK M ou)
    (h0 : ∀ w M', mrgL X Y Z 101 0 [] = .inl w → outS M M' ou → gOK M' ou → Q 0 (noted M' tr (0, zN l, zN w.1, w.2)))
    (h1 : ∀ R' M', mrgL X Y Z 101 0 [] = .inr R' → outS M M' ou → RCl M' ou l R' → okL R' → othL M M' ou l → gOK M' ou → Q 1 M') : w_G_mergesList o ca ba ru ou tr M (zN l) Q := by
  show w_S_keyAfterInEither ca M ru (zN l) (zK (-1)) _
  refine p_keyAfterInEither hl hX hZ oX oZ ⟨by omega, by omega⟩ ⟨12 + 1, ?_⟩
  exact p_mergesList_loop d1 d2 d3 hl hX hY hZ oX oY oZ h6 12 0 0 M [] rfl (by omega) (by omega) ⟨⟨fun _ h => (by cases h), List.Pairwise.nil, by simp⟩, fun _ h => (by cases h), by simp⟩ (outS.rf _ _) hR (fun _ _ _ _ _ h => h) hg h0 h1
theorem p_succeeds_loop {o ca ba ru ou tr : Nat} {M0 : sdM} {X Y Z : ASet} {Q : Int32 → sdM → Prop} (d1 : ou + 5 ≤ ca ∨ ca + 5 ≤ ou) (d2 : ou + 5 ≤ ba ∨ ba + 5 ≤ ou) (d3 : ou + 5 ≤ ru ∨ ru + 5 ≤ ou)
    (hX : RC M0 ca X) (hY : RC M0 ba Y) (hZ : RC M0 ru Z) (oX : okS X) (oY : okS Y) (oZ : okS Z) (h6 : ∀ l, l < 4 → (X l).length ≤ 6 ∧ (Z l).length ≤ 6) : ∀ (d l : Nat) (M : sdM), l + d = 4 → outS M0 M ou → gOK M ou → (∀ l', l' < 4 → RCl M ou l' (if l' < l then mrgA X Y Z l' else [])) → (∀ l', l' < l → okL (mrgA X Y Z l')) →
    (∀ w M', mrgS X Y Z d l = some w → outS M0 M' ou → gOK M' ou → Q 0 (noted M' tr w)) →
    (∀ M', mrgS X Y Z d l = none → outS M0 M' ou → RC M' ou (mrgA X Y Z) → okS (mrgA X Y Z) → gOK M' ou → Q 1 M') →
    h_G_succeeds_9 o ca ba ru ou tr Q (d + 1) M (zN l) := by
  intro d
  induction d with
  | zero =>
    intro l M hl hout hg hR hok h0 h1
    have : l = 4 := by omega
    subst this
    refine ⟨fun _ => ⟨Or.inr rfl, h1 M rfl hout (fun l' hl' => ?_) (fun l' hl' => hok l' hl') hg⟩, fun h => (h (by decide)).elim⟩
    have := hR l' hl'
    rw [if_pos hl'] at this
    exact this
  | succ d ih =>
    intro l M hl hout hg hR hok h0 h1
    have hRl := hR l (by omega)
    rw [if_neg (by omega)] at hRl
    simp only [mrgS] at h0 h1
    refine ⟨fun h => ?_, fun _ => ?_⟩
    · rw [show (4 : Int32) = zN 4 from rfl, zN_le (by decide) (by omega)] at h; omega
    · refine p_mergesList d1 d2 d3 (by omega) (hout.RCl d1 (hX l (by omega))) (hout.RCl d2 (hY l (by omega))) (hout.RCl d3 (hZ l (by omega))) (oX l (by omega)) (oY l (by omega)) (oZ l (by omega)) (h6 l (by omega)) hRl hg (fun w M' e a1 a2 => ?_) (fun R' M' e a1 a2 a3 a4 a5 => ?_)
      · rw [e] at h0
        exact ⟨fun h => absurd rfl h, fun _ => ⟨Or.inl rfl, h0 _ M' rfl (hout.tr a1) a2⟩⟩
      · refine ⟨fun _ => ?_, fun h => absurd h (by decide)⟩
        rw [show zN l + 1 = zN (l + 1) from zN_add l 1]
        rw [e] at h0 h1
        have eA : mrgA X Y Z l = R' := by unfold mrgA; rw [e]
        refine ih (l + 1) M' (by omega) (hout.tr a1) a5 (fun l' hl' => ?_) (fun l' hl' => ?_) h0 h1
        · by_cases h9 : l' = l
          · subst h9; rw [if_pos (by omega), eA]; exact a2
          · have h8 := hR l' hl'
            by_cases h7 : l' < l
            · rw [if_pos h7] at h8
              rw [if_pos (by omega)]
              exact a4 l' _ hl' h9 (hok l' h7).2.2 h8
            · rw [if_neg h7] at h8
              rw [if_neg (by omega)]
              exact a4 l' _ hl' h9 (by simp) h8
        · by_cases h9 : l' = l
          · subst h9; rw [eA]; exact a3
          · exact hok l' (by omega)
theorem p_succeeds {o ca ba ru ou tr : Nat} {M : sdM} {X Y Z : ASet} {Q : Int32 → sdM → Prop} (d1 : ou + 5 ≤ ca ∨ ca + 5 ≤ ou) (d2 : ou + 5 ≤ ba ∨ ba + 5 ≤ ou) (d3 : ou + 5 ≤ ru ∨ ru + 5 ≤ ou)
    (hX : RC M ca X) (hY : RC M ba Y) (hZ : RC M ru Z) (oX : okS X) (oY : okS Y) (oZ : okS Z) (h6 : ∀ l, l < 4 → (X l).length ≤ 6 ∧ (Z l).length ≤ 6) (hg : gOK M ou)
    (h0 : ∀ w M', mrgS X Y Z 4 0 = some w → outS M M' ou → gOK M' ou → Q 0 (noted M' tr w))
    (h1 : ∀ M', mrgS X Y Z 4 0 = none → outS M M' ou → RC M' ou (mrgA X Y Z) → okS (mrgA X Y Z) → gOK M' ou → Q 1 M') : w_G_succeeds o ca ba ru ou tr M Q := by
  refine p_removeAll (fun M1 a1 a2 a3 => ⟨4 + 1, ?_⟩)
  refine p_succeeds_loop d1 d2 d3 (a1.RC d1 hX) (a1.RC d2 hY) (a1.RC d3 hZ) oX oY oZ h6 4 0 M1 rfl (outS.rf _ _) (a3 hg) (fun l' hl' => ?_) (fun l' hl' => by omega) (fun w M' e b1 b2 => h0 w M' e (a1.tr b1) b2) (fun M' e b1 b2 b3 b4 => h1 M' e (a1.tr b1) b2 b3 b4)
  rw [if_neg (by omega)]
  exact a2 l' hl'
theorem Fnd.of {M : sdM} {l k p : Int32} {Q : Int32 → sdM → Prop} (hq : ∀ M', Fnd M M' l k p → Q 1 M') : w_O_clashes M l k p Q := by
  intro M1 e1 M2 e2 M3 e3
  refine ⟨Or.inr rfl, hq M3 ⟨fun c hc => ?_, fun j h31 h32 h33 => ?_, ?_, ?_, ?_⟩⟩
  · rw [e3, sd_s_o hc, e2, sd_s_o hc, e1, sd_s_o hc]
  · rw [e3, sd_s_ne h33, e2, sd_s_ne h32, e1, sd_s_ne h31]
  · rw [e3, sd_s_ne (by omega), e2, sd_s_ne (by omega), e1, sd_s_self]
  · rw [e3, sd_s_ne (by omega), e2, sd_s_self]
  · rw [e3, sd_s_self]
/-- M' is M with one row of the model changed -/
def RowToM (M M' : sdM) (p : Nat) (r : Row) : Prop := outM M M' ∧ M' 129 = M 129 ∧ rowAtM M' p r ∧ ∀ c q, c ≠ p → rowAtM M c q → rowAtM M' c q
theorem RowToM.tr {M M' M'' : sdM} {p : Nat} {r q : Row} (h : RowToM M M' p r) (h' : RowToM M' M'' p q) : RowToM M M'' p q := ⟨h.1.tr h'.1, h'.2.1.trans h.2.1, h'.2.2.1, fun c x h1 h2 => h'.2.2.2 c x h1 (h.2.2.2 c x h1 h2)⟩
theorem RowToM.fr {M M' : sdM} {s l i : Nat} {r : Row} (h : RowToM M M' (48 * s + 12 * l + i) r) (hs : s < 17) (hl : l < 4) (hi : i < 12) : FrM M M' s l := by
  refine ⟨h.1, fun s' l' S hs' hl' hne hS hR => ⟨by rw [h.2.1]; exact hR.1, fun j q hq => h.2.2.2 _ q ?_ (hR.2 j q hq)⟩⟩
  have hj : j < S.length := (List.getElem?_eq_some_iff.mp hq).1
  omega
theorem RowToM.app {M M' : sdM} {s l : Nat} {R : List Row} {q r : Row} (h : RowToM M M' (48 * s + 12 * l + R.length) r) (hR : RMl M s l (R ++ [q])) : RMl M' s l (R ++ [r]) := by
  refine ⟨by rw [h.2.1, hR.1]; simp, fun i x hx => ?_⟩
  by_cases hi : i < R.length
  · rw [List.getElem?_append_left hi] at hx
    exact h.2.2.2 _ x (by omega) (hR.2 i x (by rw [List.getElem?_append_left hi]; exact hx))
  · rw [List.getElem?_append_right (by omega)] at hx
    have h0 : i - R.length = 0 := by
      have := (List.getElem?_eq_some_iff.mp hx).1
      simp at this; omega
    rw [h0] at hx
    have : r = x := by simpa using hx
    rw [← this, show i = R.length by omega]
    exact h.2.2.1
theorem bitPick1 : ∀ c, c < 16 → ∀ f, f < 4 → c.testBit f = true → zN c &&& ((1 : Int32) <<< (zN f &&& 31)) = (1 : Int32) <<< (zN f &&& 31) := by decide
theorem m_copyBit {p n f : Nat} {M : sdM} {r w : Row} {K : sdM → Prop} (hp : p < 816) (hn : n < 816) (hne : n ≠ p) (hf : f < 4) (h : rowAtM M p r) (hb : r.2.1 < 16) (hz : r.2.1.testBit f = false) (hw : rowAtM M n w) (ow : okR w) (hq : ∀ M', RowToM M M' p (copyR r f (some w)) → K M') :
    vp_in (zN p) 816 ∧ vp_in (zN n) 816 ∧ vp_in (zN p) 816 ∧ ∀ M41 : sdM, M41 = sd_s M 131 (zN p).toNatClampNeg ((M 131 (zN p).toNatClampNeg) ||| ((M 131 (zN n).toNatClampNeg) &&& ((1 : Int32) <<< (zN f &&& 31)))) → vp_in (((4 : Int32) * zN n) + zN f) 3264 ∧ vp_in (((4 : Int32) * zN p) + zN f) 3264 ∧ ∀ M45 : sdM, M45 = sd_s M41 132 (((4 : Int32) * zN p) + zN f).toNatClampNeg (M41 132 (((4 : Int32) * zN n) + zN f).toNatClampNeg) → K M45 := by
  rw [zN4, zN4, zN_nat (show p < _ by omega), zN_nat (show n < _ by omega), zN_nat (show 4 * p + f < _ by omega), zN_nat (show 4 * n + f < _ by omega), h.2.1, hw.2.1]
  refine ⟨(zN_in (by omega)).mpr hp, (zN_in (by omega)).mpr hn, (zN_in (by omega)).mpr hp, fun M1 e1 => ⟨(zN_in (by omega)).mpr (by omega), (zN_in (by omega)).mpr (by omega), fun M2 e2 => hq M2 ?_⟩⟩
  have z : M1 132 = M 132 := by rw [e1, sd_s_o (by omega)]
  have eb : zN r.2.1 ||| (zN w.2.1 &&& ((1 : Int32) <<< (zN f &&& 31))) = zN (copyR r f (some w)).2.1 := by
    unfold copyR
    by_cases hbit : lvB (some w) f = true
    · rw [if_pos hbit, bitPick1 _ ow.2.1 f hf hbit]
      exact (bitGive r.2.1 hb f hf).1
    · rw [if_neg hbit, (bitC ow.2.1 hf).mpr hbit]
      simp
  rw [eb] at e1
  refine ⟨fun c hc => by rw [e2, sd_s_o (by omega), e1, sd_s_o (by omega)], by rw [e2, sd_s_o (by omega), e1, sd_s_o (by omega)], ⟨?_, ?_, fun g hg hbit => ?_⟩, fun c q hc hr => ⟨?_, ?_, fun g hg hbit => ?_⟩⟩
  · rw [e2, sd_s_o (by omega), e1, sd_s_o (by omega), copyR_key]; exact h.1
  · rw [e2, sd_s_o (by omega), e1, sd_s_self]
  · rw [copyR_val]
    by_cases hgf : g = f
    · subst hgf
      rw [e2, sd_s_self, z]
      by_cases hb2 : lvB (some w) g = true
      · rw [if_pos ⟨rfl, hb2⟩]; exact hw.2.2 g hg hb2
      · rw [if_neg (fun q => hb2 q.2)]
        rw [Bool.not_eq_true] at hb2
        rw [(copyR_bit hb hg).2 g hg, hb2, hz] at hbit
        simp at hbit
    · rw [if_neg (fun q : g = f ∧ _ => hgf q.1), e2, sd_s_ne (by omega), z]
      rw [(copyR_bit hb hf).2 g hg] at hbit
      have : (g == f) = false := by simpa using hgf
      rw [this] at hbit
      exact h.2.2 g hg (by simpa using hbit)
  · rw [e2, sd_s_o (by omega), e1, sd_s_o (by omega)]; exact hr.1
  · rw [e2, sd_s_o (by omega), e1, sd_s_ne hc]; exact hr.2.1
  · rw [e2, sd_s_ne (by omega), z]; exact hr.2.2 g hg hbit
def belowL (n : Nat) (R : List Row) : Prop := ∀ r ∈ R, ∀ f, f < 4 → n ≤ f → r.2.1.testBit f = false
theorem belowL.row {n k : Nat} {R : List Row} (h : belowL n R) (hR : okL R) (hk : k < 2147483648) {f : Nat} (hf : f < 4) (hn : n ≤ f) : lvB (lk R k) f = false := by
  cases e : lk R k with
  | none => rfl
  | some r => exact h r (lk_spec hR hk e).2.2.1 f hf hn
theorem sameL_off {x y : Option Row} {f : Nat} (hx : ∀ r, x = some r → okR r) (hy : ∀ r, y = some r → okR r) (h1 : lvB x f = false) (h2 : lvB y f = false) : sameL x y f = true := by
  unfold sameL
  rw [h1, h2, lvV_0 hx h1, lvV_0 hy h2]; simp
theorem m_leaves_loop {l k p nx nz ny : Nat} {M1 : sdM} {S : Sch} {py : Int32} {a c : Row} {y : Option Row} {Q : Int32 → sdM → Prop} (hl : l < 4) (hp : p < 816) (hnx : nx < 816 ∧ nx ≠ p) (hnz : nz < 816 ∧ nz ≠ p) (hny : py = -1 ∧ y = none ∨ ∃ r, py = zN ny ∧ ny < 816 ∧ ny ≠ p ∧ y = some r ∧ rowAtM M1 ny r ∧ okR r) (hx : rowAtM M1 nx a) (ox : okR a) (hz : rowAtM M1 nz c) (oz : okR c)
    (hS : M1 117 l = zN (lvS S l)) (hk4 : lvS S l ≤ 4) (bx : ∀ f, f < 4 → lvS S l ≤ f → lvB (some a) f = false) (by' : ∀ f, f < 4 → lvS S l ≤ f → lvB y f = false) (bz : ∀ f, f < 4 → lvS S l ≤ f → lvB (some c) f = false) :
    ∀ (d f : Nat) (M : sdM) (r : Row), f + d = lvS S l → r.2.1 < 16 → (∀ g, g < 4 → f ≤ g → r.2.1.testBit g = false) → RowToM M1 M p r → (fstN (clash (some a) y (some c)) (4 - f) f = none → ∀ M', RowToM M1 M' p (cpN (srcM (some a) y (some c)) (4 - f) f r) → Q 0 M') → (∀ f' M' M'' r', fstN (clash (some a) y (some c)) (4 - f) f = some f' → RowToM M1 M' p r' → Fnd M' M'' (zN l) (zN k) (zN f') → Q 1 M'') → h_O_mergeEntry_158 Q (d + 1) M (zN l) (zN k) (zN nz) (zN nx) py (zN p) (zN f) := by
  have oy : ∀ r, y = some r → okR r := by
    intro r hr
    rcases hny with ⟨-, e⟩ | ⟨q, -, -, -, e, -, oq⟩
    · rw [e] at hr; cases hr
    · rw [e] at hr; cases hr; exact oq
  have ox' : ∀ r, some a = some r → okR r := fun r hr => by cases hr; exact ox
  have oz' : ∀ r, some c = some r → okR r := fun r hr => by cases hr; exact oz
  intro d
  induction d with
  | zero =>
    intro f M r hf hb hlow h h0 h1
    have e1 : M 117 = M1 117 := h.1 117 (by omega)
    show vp_in _ 4 ∧ _
    rw [zN_nat (by omega), e1, hS]
    refine ⟨(zN_in (by omega)).mpr hl, fun _ => ⟨Or.inl rfl, h0 (fstN_none (fun g g1 g2 => ?_)) M ?_⟩, fun h => (h ((zN_le (by omega) (by omega)).mpr (by omega))).elim⟩
    · unfold clash
      rw [sameL_off ox' oy (bx g (by omega) (by omega)) (by' g (by omega) (by omega))]; rfl
    · rw [cpN_stop (fun g g1 g2 => ?_)]
      · exact h
      · unfold srcM
        split
        · exact bz g (by omega) (by omega)
        · exact bx g (by omega) (by omega)
  | succ d ih =>
    intro f M r hf hb hlow h h0 h1
    have e1 : M 117 = M1 117 := h.1 117 (by omega)
    have x' : isRowM M (zN nx) (some a) := Or.inr ⟨nx, a, hnx.1, rfl, rfl, h.2.2.2 nx a hnx.2 hx, ox⟩
    have z' : isRowM M (zN nz) (some c) := Or.inr ⟨nz, c, hnz.1, rfl, rfl, h.2.2.2 nz c hnz.2 hz, oz⟩
    have y' : isRowM M py y := by
      rcases hny with ⟨e, e'⟩ | ⟨q, e, hq1, hq2, e', hq3, oq⟩
      · exact Or.inl ⟨e, e'⟩
      · exact Or.inr ⟨ny, q, hq1, e, e', h.2.2.2 ny q hq2 hq3, oq⟩
    rw [show 4 - f = (4 - (f + 1)) + 1 by omega, fstN, cpN] at h0
    rw [show 4 - f = (4 - (f + 1)) + 1 by omega, fstN] at h1
    have go : ∀ M' w, clash (some a) y (some c) f = false → srcM (some a) y (some c) f = w → RowToM M M' p (copyR r f w) → h_O_mergeEntry_158 Q (d + 1) M' (zN l) (zN k) (zN nz) (zN nx) py (zN p) (zN f + 1) := by
      intro M' w hc hs hm
      rw [show zN f + 1 = zN (f + 1) from zN_add f 1]
      rw [hc, hs] at h0
      rw [hc] at h1
      obtain ⟨b1, b2⟩ := copyR_bit (r := r) (y := w) hb (show f < 4 by omega)
      refine ih (f + 1) M' _ (by omega) b1 (fun g hg hfg => ?_) (h.tr hm) h0 h1
      rw [b2 g hg, hlow g hg (by omega)]
      have : (g == f) = false := by simp; omega
      rw [this]; rfl
    have pick : clash (some a) y (some c) f = false → k_O_mergeEntry_221 Q (fun M x2 x3 x4 x5 x6 x7 x8 => h_O_mergeEntry_158 Q (d + 1) M x2 x3 x4 x5 x6 x7 x8) M (zN l) (zN k) (zN nz) (zN nx) py (zN p) (zN f) (bI (sameL (some a) y f)) := by
      intro hc
      refine ⟨fun g => ?_, fun g => ?_⟩
      · have e := bI_0.mp g
        exact m_copyBit hp hnx.1 hnx.2 (by omega) h.2.2.1 hb (hlow f (by omega) (by omega)) (h.2.2.2 nx a hnx.2 hx) ox (fun M' hm => go M' (some a) hc (by simp [srcM, e]) hm)
      · have e := bI_1.mp g
        exact m_copyBit hp hnz.1 hnz.2 (by omega) h.2.2.1 hb (hlow f (by omega) (by omega)) (h.2.2.2 nz c hnz.2 hz) oz (fun M' hm => go M' (some c) hc (by simp [srcM, e]) hm)
    show vp_in _ 4 ∧ _
    rw [zN_nat (show l < _ by omega), e1, hS, zN_le (by omega) (by omega)]
    refine ⟨(zN_in (by omega)).mpr hl, fun h => by omega, fun _ => m_alike x' y' (by omega) ⟨fun g => pick ?_, fun g => m_alike z' y' (by omega) ⟨fun g2 => pick ?_, fun g2 => m_alike x' z' (by omega) ⟨fun g3 => pick ?_, fun g3 => ?_⟩⟩⟩⟩
    · simp [clash, bI_1.mp g]
    · simp [clash, bI_1.mp g2]
    · have := bI_1.mp g3
      rw [sameL_comm] at this
      simp [clash, this]
    · have e3 := bI_0.mp g3
      rw [sameL_comm] at e3
      have hc : clash (some a) y (some c) f = true := by simp [clash, bI_0.mp g, bI_0.mp g2, e3]
      rw [hc] at h1
      exact Fnd.of (fun M'' hF => ⟨Or.inr rfl, h1 f M M'' r rfl h hF⟩)
theorem found_form {M : sdM} {s l k : Nat} {R : List Row} (h : RMl M s l R) (hR : okL R) (hs : s < 16) (hl : l < 4) : rowI (48 * s + 12 * l) (fi R (zN k)) = -1 ∧ lk R k = none ∨ ∃ n r, rowI (48 * s + 12 * l) (fi R (zN k)) = zN n ∧ n < 768 ∧ lk R k = some r ∧ rowAtM M n r ∧ okR r := by
  unfold lk
  cases hf : fi R (zN k) with
  | none => exact Or.inl ⟨rfl, rfl⟩
  | some i =>
    have hi := fi_lt hf
    have hr : R[i]? = some R[i] := List.getElem?_eq_getElem hi
    have := hR.2.2
    exact Or.inr ⟨48 * s + 12 * l + i, R[i], rfl, by omega, hr, h.2 i _ hr, hR.1 _ (List.getElem_mem _)⟩
theorem MovedM.row {M M' : sdM} {a b : Nat} {w : Row} (h : MovedM M M' a b) (hw : rowAtM M a w) : RowToM M M' b w := ⟨h.1, h.2.1, h.2.2.1 w hw, h.2.2.2⟩
theorem m_takeRow {l k s : Nat} {M : sdM} {W R : List Row} {Q : Int32 → sdM → Prop} (hl : l < 4) (hk : k ≤ 100) (hs : s < 16) (hW : RMl M s l W) (oW : okL W) (hR : RMl M 16 l R) (hok : okL R) (hlt : (lk W k).isSome = true → R.length < 12) (hlow : ∀ r ∈ R, r.1 < k)
    (hq : ∀ M', FrM M M' 16 l → RMl M' 16 l (R ++ (lk W k).toList) → Q 0 M') : k_O_mergeEntry_73 Q M (zN l) (zN k) (rowI (48 * s + 12 * l) (fi W (zN k))) := by
  rcases found_form (k := k) hW oW hs hl with ⟨e1, e2⟩ | ⟨n, r, e1, hn, e2, hr, hor⟩
  · rw [e1]
    rw [e2] at hq
    exact ⟨fun _ => ⟨Or.inl rfl, hq M (FrM.rf _ _ _) (by simpa using hR)⟩, fun h => absurd (by decide) h⟩
  · have hlen := hlt (by rw [e2]; rfl)
    refine ⟨fun h => ?_, fun _ => ?_⟩
    · rw [e1] at h; exact (zN_ge (by omega) h).elim
    refine m_insert (s := 16) (by omega) hl hR hok hlen hk (fun M' a1 a2 => ?_)
    rw [insP_end hlow]
    rw [insL_end hlow] at a2
    have hW' := a1.2 s l W (by omega) hl (Or.inl (by omega)) oW.2.2 hW
    rcases found_form (k := k) hW' oW hs hl with ⟨e1', e2'⟩ | ⟨n', r', e1', hn', e2', hr', hor'⟩
    · rw [e2] at e2'; cases e2'
    · rw [e1']
      refine m_put (by omega) (by omega) (fun M2 hm => ?_)
      have hrow := hm.row hr'
      refine ⟨Or.inl rfl, hq M2 (a1.tr (hrow.fr (by omega) hl (by omega))) ?_⟩
      rw [e2']
      exact hrow.app a2
theorem m_mergeEntry {l k s : Nat} {M : sdM} {S : Sch} {X Y Z R : List Row} {Q : Int32 → sdM → Prop} (hl : l < 4) (hk : k ≤ 100) (hs : s < 3) (hX : RMl M (10 + s) l X) (hY : RMl M (13 + s) l Y) (hZ : RMl M 0 l Z) (oX : okL X) (oY : okL Y) (oZ : okL Z) (h6 : X.length ≤ 6 ∧ Z.length ≤ 6) (hS : M 117 l = zN (lvS S l)) (hk4 : lvS S l ≤ 4) (bX : belowL (lvS S l) X) (bY : belowL (lvS S l) Y) (bZ : belowL (lvS S l) Z) (hR : RMl M 16 l R) (hacc : accOK X Z R k)
    (h0 : ∀ p M' M'', mrgO k (lk X k) (lk Y k) (lk Z k) = .inl p → FrM M M' 16 l → Fnd M' M'' (zN l) (zN k) p → Q 1 M'')
    (h1 : ∀ v M', mrgO k (lk X k) (lk Y k) (lk Z k) = .inr v → FrM M M' 16 l → RMl M' 16 l (R ++ v.toList) → Q 0 M') : w_O_mergeEntry M (zN s) (zN l) (zN k) Q := by
  unfold w_O_mergeEntry
  rw [show (10 : Int32) = zN 10 from rfl, show (13 : Int32) = zN 13 from rfl, zN_add, zN_add]
  refine m_find (s := 0) (by omega) hl hZ oZ (m_find (by omega) hl hX oX (m_find (by omega) hl hY oY ?_))
  have x' : isRowM M (rowI (48 * (10 + s) + 12 * l) (fi X (zN k))) (lk X k) := hX.found oX (by omega) hl
  have y' : isRowM M (rowI (48 * (13 + s) + 12 * l) (fi Y (zN k))) (lk Y k) := hY.found oY (by omega) hl
  have z' : isRowM M (rowI (48 * 0 + 12 * l) (fi Z (zN k))) (lk Z k) := hZ.found oZ (by omega) hl
  have room : ∀ r, mrgO k (lk X k) (lk Y k) (lk Z k) = .inr (some r) → R.length < 12 := fun r hr => (hacc.room oX oZ h6 hk hr).1
  have fin : sameE (lk X k) (lk Y k) = true ∨ sameE (lk Z k) (lk Y k) = true → k_O_mergeEntry_55 Q M (zN l) (zN k) (rowI (48 * 0 + 12 * l) (fi Z (zN k))) (rowI (48 * (10 + s) + 12 * l) (fi X (zN k))) (rowI (48 * (13 + s) + 12 * l) (fi Y (zN k))) := by
    intro hor
    refine m_sameEntry x' y' ⟨fun g => ?_, fun g => ?_⟩
    · have e1 := bI_0.mp g
      have e2 : sameE (lk Z k) (lk Y k) = true := by
        rcases hor with h | h
        · rw [e1] at h; cases h
        · exact h
      have em : mrgO k (lk X k) (lk Y k) (lk Z k) = .inr (lk X k) := by unfold mrgO; rw [e1, e2]; rfl
      refine m_takeRow hl hk (by omega) hX oX hR hacc.1 (fun hs => ?_) hacc.2.1 (fun M' a1 a2 => h1 _ M' em a1 a2)
      obtain ⟨r, hr⟩ := Option.isSome_iff_exists.mp hs
      exact room r (by rw [em, hr])
    · have e1 := bI_1.mp g
      have em : mrgO k (lk X k) (lk Y k) (lk Z k) = .inr (lk Z k) := by unfold mrgO; rw [e1]; rfl
      refine m_takeRow hl hk (by omega) hZ oZ hR hacc.1 (fun hs => ?_) hacc.2.1 (fun M' a1 a2 => h1 _ M' em a1 a2)
      obtain ⟨r, hr⟩ := Option.isSome_iff_exists.mp hs
      exact room r (by rw [em, hr])
  refine m_sameEntry x' y' ⟨fun g => fin (Or.inl (bI_1.mp g)), fun g => m_sameEntry z' y' ⟨fun g2 => ?_, fun g2 => fin (Or.inr (bI_1.mp g2))⟩⟩
  have e1 := bI_0.mp g
  have e2 := bI_0.mp g2
  have sx := x'.sgn
  have sz := z'.sgn
  have lt0 : ∀ p : Int32, p < 0 ↔ ¬ 0 ≤ p := by
    intro p; rw [Int32.lt_iff_toInt_lt, Int32.le_iff_toInt_le]; omega
  have one : (lk X k).isSome ≠ (lk Z k).isSome → ∀ M'', Fnd M M'' (zN l) (zN k) (-1) → Q 1 M'' := by
    intro hne M'' hF
    refine h0 (-1) M M'' ?_ (FrM.rf _ _ _) hF
    cases ex : lk X k with
    | none => cases ez : lk Z k with
      | none => rw [ex, ez] at hne; exact (hne rfl).elim
      | some c => rw [ex] at e1; rw [ez] at e2; unfold mrgO; rw [e1, e2]; rfl
    | some a => cases ez : lk Z k with
      | none => rw [ex] at e1; rw [ez] at e2; unfold mrgO; rw [e1, e2]; rfl
      | some c => rw [ex, ez] at hne; exact (hne rfl).elim
  have both : lk X k = none → lk Z k = none → Q 0 M := by
    intro ex ez
    refine h1 none M ?_ (FrM.rf _ _ _) (by simpa using hR)
    rw [ex, ez]; exact mrgO_none k _
  have two : ((lk X k).isSome = false ∨ (lk Z k).isSome = false) → k_O_mergeEntry_106 Q M (zN l) (zN k) (rowI (48 * 0 + 12 * l) (fi Z (zN k))) (rowI (48 * (10 + s) + 12 * l) (fi X (zN k))) := by
    intro hor
    have last : ∀ s0 s1 : Int32, (s0 = s1 ↔ (lk X k).isSome = (lk Z k).isSome) → k_O_mergeEntry_126 Q M (zN l) (zN k) s0 s1 := by
      intro s0 s1 hs01
      refine ⟨fun e => ⟨Or.inl rfl, ?_⟩, fun e => Fnd.of (fun M'' hF => ⟨fun h => absurd h (by decide), fun _ => ⟨Or.inr rfl, one (fun h => e (hs01.mpr h)) M'' hF⟩⟩)⟩
      have e9 := hs01.mp e
      have n1 : lk X k = none := by
        cases ex : lk X k with
        | none => rfl
        | some a => rw [ex] at e9 hor; rw [← e9] at hor; simp at hor
      have n2 : lk Z k = none := by
        cases ez : lk Z k with
        | none => rfl
        | some a => rw [n1, ez] at e9; simp at e9
      exact both n1 n2
    have sx' := lt0 (rowI (48 * (10 + s) + 12 * l) (fi X (zN k)))
    have sz' := lt0 (rowI (48 * 0 + 12 * l) (fi Z (zN k)))
    rw [sx] at sx'
    rw [sz] at sz'
    refine ⟨fun h => ⟨fun h2 => last 0 0 ?_, fun h2 => last 0 1 ?_⟩, fun h => ⟨fun h2 => last 1 0 ?_, fun h2 => last 1 1 ?_⟩⟩
    · rw [sz'] at h; rw [sx'] at h2
      rw [Bool.not_eq_true] at h h2
      rw [h, h2]; simp
    · rw [sz'] at h; rw [sx', Classical.not_not] at h2
      rw [Bool.not_eq_true] at h
      rw [h, h2]; exact ⟨fun h => absurd h (by decide), fun h => by cases h⟩
    · rw [sz', Classical.not_not] at h; rw [sx'] at h2
      rw [Bool.not_eq_true] at h2
      rw [h, h2]; exact ⟨fun h => absurd h (by decide), fun h => by cases h⟩
    · rw [sz', Classical.not_not] at h; rw [sx', Classical.not_not] at h2
      rw [h, h2]; simp
  refine ⟨fun h => two (Or.inr ?_), fun h => ⟨fun h2 => ?_, fun h2 => two (Or.inl ?_)⟩⟩
  · rw [lt0, sz] at h
    simpa using h
  · rw [lt0, Classical.not_not, sz] at h
    rw [sx] at h2
    obtain ⟨c, ec⟩ := Option.isSome_iff_exists.mp h
    obtain ⟨a, ea⟩ := Option.isSome_iff_exists.mp h2
    have em : mrgO k (lk X k) (lk Y k) (lk Z k) = match fstN (clash (some a) (lk Y k) (some c)) 4 0 with
        | some f => .inl (zN f)
        | none => .inr (some (cpN (srcM (some a) (lk Y k) (some c)) 4 0 (newR k))) := by
      rw [ea] at e1
      rw [ec] at e2
      rw [ea, ec]; unfold mrgO; rw [e1, e2]; rfl
    have hlt : R.length < 12 := by
      have b1 := cnt_le X (k + 1)
      have b2 := cnt_le Z (k + 1)
      have m1 := isSome_lk oX (k := k) (by omega) h2
      have m2 := cnt_mono Z (show k ≤ k + 1 by omega)
      have := hacc.2.2
      omega
    refine m_insert (s := 16) (by omega) hl hR hacc.1 hlt hk (fun M' a1 a2 => ?_)
    rw [insP_end hacc.2.1]
    rw [insL_end hacc.2.1] at a2
    have hrow : rowAtM M' (48 * 16 + 12 * l + R.length) (newR k) := a2.2 R.length (newR k) (by simp)
    have fX := found_form (k := k) (a1.2 (10 + s) l X (by omega) hl (Or.inl (by omega)) oX.2.2 hX) oX (by omega) hl
    have fY := found_form (k := k) (a1.2 (13 + s) l Y (by omega) hl (Or.inl (by omega)) oY.2.2 hY) oY (by omega) hl
    have fZ := found_form (k := k) (a1.2 0 l Z (by omega) hl (Or.inl (by omega)) oZ.2.2 hZ) oZ (by omega) hl
    rcases fX with ⟨-, q⟩ | ⟨nx, ax, ex1, ex2, ex3, ex4, ex5⟩
    · rw [ea] at q; cases q
    rcases fZ with ⟨-, q⟩ | ⟨nz, az, ez1, ez2, ez3, ez4, ez5⟩
    · rw [ec] at q; cases q
    rw [ea] at ex3
    rw [ec] at ez3
    cases ex3
    cases ez3
    rw [ex1, ez1]
    have fY' : ∃ ny, rowI (48 * (13 + s) + 12 * l) (fi Y (zN k)) = -1 ∧ lk Y k = none ∨ ∃ r, rowI (48 * (13 + s) + 12 * l) (fi Y (zN k)) = zN ny ∧ ny < 816 ∧ ny ≠ 48 * 16 + 12 * l + R.length ∧ lk Y k = some r ∧ rowAtM M' ny r ∧ okR r := by
      rcases fY with ⟨q1, q2⟩ | ⟨ny, r, q1, q2, q3, q4, q5⟩
      · exact ⟨0, Or.inl ⟨q1, q2⟩⟩
      · exact ⟨ny, Or.inr ⟨r, q1, by omega, by omega, q3, q4, q5⟩⟩
    obtain ⟨ny, fY'⟩ := fY'
    refine ⟨lvS S l + 1, m_leaves_loop (S := S) hl (by omega) ⟨by omega, by omega⟩ ⟨by omega, by omega⟩ fY' ex4 ex5 ez4 ez5 (by rw [a1.1 117 (by omega)]; exact hS) hk4 (fun f hf hn => ?_) (fun f hf hn => bY.row oY (by omega) hf hn) (fun f hf hn => ?_) (lvS S l) 0 M' (newR k) (by omega) (by simp [newR]) (fun g _ _ => by simp [newR]) ⟨outM.rf _, rfl, hrow, fun _ _ _ h => h⟩ (fun hc M2 h2 => ?_) (fun f' M2 M3 r' hc h2 hF => ?_)⟩
    · rw [← ea]; exact bX.row oX (by omega) hf hn
    · rw [← ec]; exact bZ.row oZ (by omega) hf hn
    · rw [show 4 - 0 = 4 from rfl] at hc
      rw [hc] at em
      exact h1 _ M2 em (a1.tr (h2.fr (by omega) hl (by omega))) (h2.app a2)
    · rw [show 4 - 0 = 4 from rfl] at hc
      rw [hc] at em
      exact h0 _ M2 M3 em (a1.tr (h2.fr (by omega) hl (by omega))) hF
  · rw [sx] at h2
    simpa using h2
theorem m_merge_keys {l s : Nat} {M0 : sdM} {S : Sch} {X Y Z : List Row} {Q : Int32 → sdM → Prop} {k26 : sdM → Int32 → Int32 → Prop} (hl : l < 4) (hs : s < 3) (hX : RMl M0 (10 + s) l X) (hY : RMl M0 (13 + s) l Y) (hZ : RMl M0 0 l Z) (oX : okL X) (oY : okL Y) (oZ : okL Z) (h6 : X.length ≤ 6 ∧ Z.length ≤ 6) (hS : M0 117 l = zN (lvS S l)) (hk4 : lvS S l ≤ 4) (bX : belowL (lvS S l) X) (bY : belowL (lvS S l) Y) (bZ : belowL (lvS S l) Z) : ∀ (d k : Nat) (M : sdM) (R : List Row), k + d = 101 → FrM M0 M 16 l → RMl M 16 l R → accOK X Z R k →
    (∀ w M' M'', mrgL X Y Z d k R = .inl w → FrM M0 M' 16 l → Fnd M' M'' (zN l) (zN w.1) w.2 → Q 1 M'') →
    (∀ R' M', mrgL X Y Z d k R = .inr R' → FrM M0 M' 16 l → RMl M' 16 l R' → okL R' → k26 M' (zN s) (zN (l + 1))) →
    h_O_merge_43 Q k26 (d + 1) M (zN s) (zN l) (zN k) := by
  intro d
  induction d with
  | zero =>
    intro k M R hk hfr hR hacc h0 h1
    have : k = 101 := by omega
    subst this
    refine ⟨fun _ => ?_, fun h => (h (by decide)).elim⟩
    rw [show zN l + 1 = zN (l + 1) from zN_add l 1]
    exact h1 R M rfl hfr hR hacc.1
  | succ d ih =>
    intro k M R hk hfr hR hacc h0 h1
    refine ⟨fun h => ?_, fun _ => ?_⟩
    · rw [show (100 : Int32) = zN 100 from rfl, zN_lt (by decide) (by omega)] at h; omega
    · simp only [mrgL] at h0 h1
      refine m_mergeEntry hl (by omega) hs (hfr.2 _ l X (by omega) hl (Or.inl (by omega)) oX.2.2 hX) (hfr.2 _ l Y (by omega) hl (Or.inl (by omega)) oY.2.2 hY) (hfr.2 _ l Z (by omega) hl (Or.inl (by omega)) oZ.2.2 hZ) oX oY oZ h6 (by rw [hfr.1 117 (by omega)]; exact hS) hk4 bX bY bZ hR hacc (fun p M' M'' e a1 hF => ?_) (fun v M' e a1 a2 => ?_)
      · rw [e] at h0
        exact ⟨fun h => absurd h (by decide), fun _ => ⟨Or.inr rfl, h0 _ M' M'' rfl (hfr.tr a1) hF⟩⟩
      · refine ⟨fun _ => ?_, fun h => absurd rfl h⟩
        rw [show zN k + 1 = zN (k + 1) from zN_add k 1]
        rw [e] at h0 h1
        cases v with
        | none => exact ih (k + 1) M' R (by omega) (hfr.tr a1) (by simpa using a2) hacc.next h0 h1
        | some r => exact ih (k + 1) M' (R ++ [r]) (by omega) (hfr.tr a1) a2 (hacc.room oX oZ h6 (by omega) e).2.2.2 h0 h1
theorem m_merge_lists {s : Nat} {M0 : sdM} {S : Sch} {X Y Z : ASet} {Q : Int32 → sdM → Prop} (hs : s < 3) (hX : RM M0 (10 + s) X) (hY : RM M0 (13 + s) Y) (hZ : RM M0 0 Z) (oX : okS X) (oY : okS Y) (oZ : okS Z) (h6 : ∀ l, l < 4 → (X l).length ≤ 6 ∧ (Z l).length ≤ 6) (hS : SCM M0 S) (hk : okSch S) (bX : ∀ l, l < 4 → belowL (lvS S l) (X l)) (bY : ∀ l, l < 4 → belowL (lvS S l) (Y l)) (bZ : ∀ l, l < 4 → belowL (lvS S l) (Z l)) : ∀ (d l : Nat) (M : sdM), l + d = 4 → FrS M0 M 16 → (∀ l', l' < l → RMl M 16 l' (mrgA X Y Z l') ∧ okL (mrgA X Y Z l')) →
    (∀ w M' M'', mrgS X Y Z d l = some w → FrS M0 M' 16 → Fnd M' M'' w.2.1 w.2.2.1 w.2.2.2 → w.1 = 0 → Q 1 M'') →
    (∀ M', mrgS X Y Z d l = none → FrS M0 M' 16 → RM M' 16 (mrgA X Y Z) → okS (mrgA X Y Z) → Q 0 M') →
    h_O_merge_26 Q (d + 1) M (zN s) (zN l) := by
  intro d
  induction d with
  | zero =>
    intro l M hl hfr hR h0 h1
    have : l = 4 := by omega
    subst this
    exact ⟨fun _ => ⟨Or.inl rfl, h1 M rfl hfr (fun l' hl' => (hR l' hl').1) (fun l' hl' => (hR l' hl').2)⟩, fun h => (h (by decide)).elim⟩
  | succ d ih =>
    intro l M hl hfr hR h0 h1
    simp only [mrgS] at h0 h1
    refine ⟨fun h => ?_, fun _ => ?_⟩
    · rw [show (4 : Int32) = zN 4 from rfl, zN_le (by decide) (by omega)] at h; omega
    · rw [show (64 : Int32) = zN 64 from rfl, zN_add, zN_nat (by omega)]
      refine ⟨(zN_in (by omega)).mpr (by omega), fun M1 e1 => ⟨101 + 1, ?_⟩⟩
      have f1 : FrM M M1 16 l := ⟨fun c hc => by rw [e1, sd_s_o (by omega)], fun s' l' S' a b c d' e => ⟨by rw [e1, sd_s_ne (by omega)]; exact e.1, fun j r hr => by
        have := e.2 j r hr
        exact ⟨by rw [e1, sd_s_o (by omega)]; exact this.1, by rw [e1, sd_s_o (by omega)]; exact this.2.1, fun f hf hb => by rw [e1, sd_s_o (by omega)]; exact this.2.2 f hf hb⟩⟩⟩
      have r1 : RMl M1 16 l [] := ⟨by rw [e1, show 4 * 16 + l = 64 + l by omega, sd_s_self]; rfl, fun i r hr => by simp at hr⟩
      have g1 := hfr.tr f1.S
      have eS : M1 117 l = zN (lvS S l) := by rw [g1.1 117 (by omega)]; exact hS.2.1 l (by omega)
      refine m_merge_keys (by omega) hs (g1.2 _ X (by omega) (by omega) oX hX l (by omega)) (g1.2 _ Y (by omega) (by omega) oY hY l (by omega)) (g1.2 _ Z (by omega) (by omega) oZ hZ l (by omega)) (oX l (by omega)) (oY l (by omega)) (oZ l (by omega)) (h6 l (by omega)) eS (hk.2.1 l) (bX l (by omega)) (bY l (by omega)) (bZ l (by omega)) 101 0 M1 [] rfl (FrM.rf _ _ _) r1 ⟨⟨fun _ h => (by cases h), List.Pairwise.nil, by simp⟩, fun _ h => (by cases h), by simp⟩ (fun w M' M'' e a1 hF => ?_) (fun R' M' e a1 a2 a3 => ?_)
      · rw [e] at h0
        exact h0 _ M' M'' rfl (g1.tr a1.S) hF rfl
      · rw [e] at h0 h1
        have eA : mrgA X Y Z l = R' := by unfold mrgA; rw [e]
        refine ih (l + 1) M' (by omega) (g1.tr a1.S) (fun l' hl' => ?_) h0 h1
        by_cases h9 : l' = l
        · subst h9; rw [eA]; exact ⟨a2, a3⟩
        · obtain ⟨q1, q2⟩ := hR l' (by omega)
          exact ⟨(f1.tr a1).2 16 l' _ (by omega) (by omega) (Or.inr h9) q2.2.2 q1, q2⟩
theorem mrgO_yy {k : Nat} {x y : Option Row} (h : sameE x y = true → x = y) : mrgO k x y y = .inr x := by
  unfold mrgO
  by_cases hs : sameE x y = true
  · rw [if_pos hs, h hs]
  · rw [if_neg hs, if_pos (sameE_refl y)]
theorem mrgL_yy {X Y : List Row} (oX : okL X) (oY : okL Y) : ∀ (d k i : Nat), k + d = 101 → i ≤ X.length → (∀ (j : Nat) (r : Row), X[j]? = some r → (j < i ↔ r.1 < k)) → mrgL X Y Y d k (X.take i) = .inr X := by
  intro d
  induction d with
  | zero =>
    intro k i hk hi h
    have : i = X.length := by
      refine Classical.byContradiction fun hne => ?_
      have hr : X[i]? = some X[i] := List.getElem?_eq_getElem (by omega)
      have := (oX.1 X[i] (List.getElem_mem _)).1
      have := (h i _ hr).mpr (by omega)
      omega
    rw [this, mrgL, List.take_length]
  | succ d ih =>
    intro k i hk hi h
    have em : mrgO k (lk X k) (lk Y k) (lk Y k) = .inr (lk X k) := mrgO_yy (fun hs => sameE_eq (lk_ok oX k (by omega)) (lk_ok oY k (by omega)) (fun r q hr hq => by rw [(lk_spec oX (by omega) hr).1, (lk_spec oY (by omega) hq).1]) hs)
    rw [mrgL, em]
    cases ex : lk X k with
    | none =>
      refine ih (k + 1) i (by omega) hi (fun j r hr => ?_)
      have h1 := h j r hr
      have : r.1 ≠ k := fun e => by rw [lk_some oX hr e] at ex; cases ex
      omega
    | some a =>
      obtain ⟨ka, -, -, j, hj⟩ := lk_spec oX (k := k) (by omega) ex
      have hjl : j < X.length := (List.getElem?_eq_some_iff.mp hj).1
      have hji : j = i := by
        have h1 := (h j a hj)
        refine Classical.byContradiction fun hne => ?_
        have hi2 : i < X.length := by omega
        have hri : X[i]? = some X[i] := List.getElem?_eq_getElem hi2
        have h2 := h i _ hri
        have hp := List.pairwise_iff_getElem.mp oX.2.1 i j hi2 hjl (by omega)
        have : X[j] = a := by rw [List.getElem?_eq_getElem hjl] at hj; exact Option.some.inj hj
        rw [this] at hp
        omega
      subst hji
      have et : X.take j ++ [a] = X.take (j + 1) := by
        rw [List.take_succ, hj]; rfl
      show mrgL X Y Y d (k + 1) (X.take j ++ [a]) = _
      rw [et]
      refine ih (k + 1) (j + 1) (by omega) (by omega) (fun j' r hr => ?_)
      have h1 := h j' r hr
      by_cases e : j' = j
      · subst e
        rw [hj] at hr
        cases hr
        omega
      · have : r.1 ≠ k := fun e' => e (oX.key_inj hr hj (e'.trans ka.symm))
        omega
theorem mrg_short {X Y Z : ASet} (oX : okS X) (oY : okS Y) (oZ : okS Z) (h : sameS Z Y = true) : mrgS X Y Z 4 0 = none ∧ ∀ l, l < 4 → mrgA X Y Z l = X l := by
  have he := sameS_eq oZ oY h
  have key : ∀ l, l < 4 → mrgL (X l) (Y l) (Z l) 101 0 [] = .inr (X l) := by
    intro l hl
    rw [he l hl]
    have := mrgL_yy (oX l hl) (oY l hl) 101 0 0 rfl (by omega) (fun j r _ => by omega)
    rw [List.take_zero] at this
    exact this
  refine ⟨?_, fun l hl => by unfold mrgA; rw [key l hl]⟩
  simp only [mrgS]
  rw [key 0 (by omega), key 1 (by omega), key 2 (by omega), key 3 (by omega)]
theorem RM.congr {M : sdM} {s : Nat} {A B : ASet} (h : RM M s A) (he : ∀ l, l < 4 → B l = A l) : RM M s B := fun l hl => by rw [he l hl]; exact h l hl
theorem okS.congr {A B : ASet} (h : okS A) (he : ∀ l, l < 4 → B l = A l) : okS B := fun l hl => by rw [he l hl]; exact h l hl
theorem RC.congr {M : sdM} {s : Nat} {A B : ASet} (h : RC M s A) (he : ∀ l, l < 4 → B l = A l) : RC M s B := fun l hl => by rw [he l hl]; exact h l hl
theorem m_merge {s : Nat} {M : sdM} {S : Sch} {X Y Z : ASet} {Q : Int32 → sdM → Prop} (hs : s < 3) (hX : RM M (10 + s) X) (hY : RM M (13 + s) Y) (hZ : RM M 0 Z) (oX : okS X) (oY : okS Y) (oZ : okS Z) (h6 : ∀ l, l < 4 → (X l).length ≤ 6 ∧ (Z l).length ≤ 6) (hS : SCM M S) (hk : okSch S) (bX : ∀ l, l < 4 → belowL (lvS S l) (X l)) (bY : ∀ l, l < 4 → belowL (lvS S l) (Y l)) (bZ : ∀ l, l < 4 → belowL (lvS S l) (Z l))
    (h0 : ∀ w M' M'', mrgS X Y Z 4 0 = some w → FrS M M' 16 → Fnd M' M'' w.2.1 w.2.2.1 w.2.2.2 → w.1 = 0 → Q 1 M'')
    (h1 : ∀ M', mrgS X Y Z 4 0 = none → FrS M M' 16 → RM M' 16 (mrgA X Y Z) → okS (mrgA X Y Z) → Q 0 M') : w_O_merge M (zN s) Q := by
  unfold w_O_merge
  rw [show (10 : Int32) = zN 10 from rfl, show (13 : Int32) = zN 13 from rfl, zN_add, zN_add]
  refine m_same (s := 0) (by omega) (by omega) hZ hY oZ oY ⟨fun _ => ⟨4 + 1, ?_⟩, fun g => ?_⟩
  · exact m_merge_lists hs hX hY hZ oX oY oZ h6 hS hk bX bY bZ 4 0 M rfl (FrS.rf _ _) (fun l' h => by omega) h0 h1
  · obtain ⟨e1, e2⟩ := mrg_short oX oY oZ (bI_1.mp g)
    refine m_copy (b := 16) (by omega) (by omega) (by omega) hX oX (fun M' a1 a2 => ⟨Or.inl rfl, h1 M' e1 a1 (a2.congr e2) (oX.congr e2)⟩)
/-- the merge keeps bits below the number of leaves -/
theorem mrgL_below {n : Nat} {X Y Z : List Row} (oX : okL X) (oZ : okL Z) (bX : belowL n X) (bZ : belowL n Z) : ∀ (d k : Nat) (acc R : List Row), k + d = 101 → belowL n acc → mrgL X Y Z d k acc = .inr R → belowL n R := by
  intro d
  induction d with
  | zero => intro k acc R hk ha h; rw [mrgL] at h; cases h; exact ha
  | succ d ih =>
    intro k acc R hk ha h
    rw [mrgL] at h
    split at h
    · cases h
    · exact ih _ _ _ (by omega) ha h
    · rename_i r hm
      refine ih _ _ _ (by omega) (fun q hq f hf hn => ?_) h
      rcases List.mem_append.mp hq with hq | hq
      · exact ha q hq f hf hn
      · rw [List.mem_singleton.mp hq]
        have lx := bX.row oX (k := k) (by omega) hf hn
        have lz := bZ.row oZ (k := k) (by omega) hf hn
        unfold mrgO at hm
        split at hm
        · have e : lk Z k = some r := Sum.inr.inj hm
          rw [e] at lz; exact lz
        · split at hm
          · have e : lk X k = some r := Sum.inr.inj hm
            rw [e] at lx; exact lx
          · split at hm
            · cases hm
            · split at hm
              · cases hm
              · have e := Option.some.inj (Sum.inr.inj hm)
                rw [← e, (cpN_spec (by omega) (by simp [newR])).2.2.1 f hf]
                have : lvB (srcM (lk X k) (lk Y k) (lk Z k) f) f = false := by
                  unfold srcM
                  split
                  · exact lz
                  · exact lx
                rw [this]; simp [newR]
            · cases hm
theorem mrgA_below {n : Nat} {X Y Z : ASet} {l : Nat} (oX : okL (X l)) (oZ : okL (Z l)) (bX : belowL n (X l)) (bZ : belowL n (Z l)) : belowL n (mrgA X Y Z l) := by
  unfold mrgA
  split
  · intro r hr; cases hr
  · rename_i R h
    exact mrgL_below oX oZ bX bZ 101 0 [] R rfl (fun r hr => by cases hr) h
/-- differences: list, key, leaf, kind -/
def dif0 (l k : Nat) (x z : Option Row) : List Flt := if x.isSome == z.isSome then [] else [(zN l, zN k, -1, if x.isSome then 1 else 2)]
def difF (l k : Nat) (x z : Option Row) : Nat → Nat → List Flt
  | 0, _ => []
  | d + 1, f => (if x.isSome && !sameL x z f then [(zN l, zN k, zN f, 3)] else []) ++ difF l k x z d (f + 1)
def difE (l k : Nat) (x z : Option Row) : List Flt := dif0 l k x z ++ difF l k x z 4 0
def difK (X Z : List Row) (l : Nat) : Nat → Nat → List Flt
  | 0, _ => []
  | d + 1, k => difE l k (lk X k) (lk Z k) ++ difK X Z l d (k + 1)
def difS (X Z : ASet) : Nat → Nat → List Flt
  | 0, _ => []
  | d + 1, l => difK (X l) (Z l) l 101 0 ++ difS X Z d (l + 1)
theorem difF_len (l k : Nat) (x z : Option Row) : ∀ d f, (difF l k x z d f).length ≤ d := by
  intro d
  induction d with
  | zero => intro f; exact Nat.le_refl _
  | succ d ih =>
    intro f
    rw [difF, List.length_append]
    have := ih (f + 1)
    split
    · simp; omega
    · simp; omega
theorem difE_len (l k : Nat) (x z : Option Row) : (difE l k x z).length ≤ 5 := by
  have := difF_len l k x z 4 0
  unfold difE dif0
  rw [List.length_append]
  split
  · simp; omega
  · simp; omega
theorem difK_len (X Z : List Row) (l : Nat) : ∀ d k, (difK X Z l d k).length ≤ 5 * d := by
  intro d
  induction d with
  | zero => intro k; exact Nat.le_refl _
  | succ d ih =>
    intro k
    rw [difK, List.length_append]
    have := ih (k + 1)
    have := difE_len l k (lk X k) (lk Z k)
    omega
theorem difS_len (X Z : ASet) : ∀ d l, (difS X Z d l).length ≤ 505 * d := by
  intro d
  induction d with
  | zero => intro k; exact Nat.le_refl _
  | succ d ih =>
    intro l
    rw [difS, List.length_append]
    have := ih (l + 1)
    have := difK_len (X l) (Z l) l 101 0
    omega
theorem difF_none (l k : Nat) (z : Option Row) : ∀ d f, difF l k none z d f = [] := by
  intro d
  induction d with
  | zero => intro f; rfl
  | succ d ih => intro f; rw [difF, ih]; rfl
theorem difE_none (l k : Nat) : difE l k none none = [] := by unfold difE; rw [difF_none]; rfl
/-- what a Difference o has noted after passing the differences P, looking for number K -/
def PE (M : sdM) (o K : Nat) (P : List Flt) : Prop := M o 2 = zN K - zN P.length ∧ match P[K]? with
  | none => M o 3 = 0
  | some w => M o 3 = 1 ∧ M o 4 = w.1 ∧ M o 5 = w.2.1 ∧ M o 6 = w.2.2.1 ∧ M o 7 = w.2.2.2
def outC (M M' : sdM) (o : Nat) : Prop := ∀ c, c ≠ o → M' c = M c
theorem outC.rf (M : sdM) (o : Nat) : outC M M o := fun _ _ => rfl
theorem outC.tr {M M' M'' : sdM} {o : Nat} (h : outC M M' o) (h' : outC M' M'' o) : outC M M'' o := fun c hc => (h' c hc).trans (h c hc)
theorem outC.RCl {M M' : sdM} {o o2 l : Nat} {R : List Row} (h : outC M M' o) (hd : o2 + 4 < o) (hA : RCl M o2 l R) : RCl M' o2 l R := by
  obtain ⟨h1, h2⟩ := hA
  refine ⟨by rw [h _ (by omega)]; exact h1, fun i r hr => ?_⟩
  obtain ⟨g1, g2, g3⟩ := h2 i r hr
  exact ⟨by rw [h _ (by omega)]; exact g1, by rw [h _ (by omega)]; exact g2, fun f hf => by rw [h _ (by omega)]; exact g3 f hf⟩
theorem sub_sub1 (a : Int32) (n : Nat) : a - zN n - 1 = a - zN (n + 1) := by
  rw [← zN_add, show zN 1 = 1 from rfl]
  rw [Int32.sub_eq_add_neg, Int32.sub_eq_add_neg, Int32.sub_eq_add_neg, Int32.neg_add, Int32.add_assoc, Int32.sub_eq_add_neg]
theorem p_pass {o ca ru K : Nat} {M : sdM} {P : List Flt} {a b c d : Int32} {Q : sdM → Prop} (hK : K < 2147483648) (hP : P.length < 2147483647) (h : PE M o K P) (hq : ∀ M', outC M M' o → PE M' o K (P ++ [(a, b, c, d)]) → Q M') : w_E_pass o ca ru M a b c d Q := by
  obtain ⟨h1, h2⟩ := h
  have z : M o 2 = 0 ↔ K = P.length := by
    rw [h1]
    refine ⟨fun e => ?_, fun e => by rw [e]; simp⟩
    have e9 : zN K = zN P.length := by
      have := congrArg (· + zN P.length) e
      simpa using this
    exact (zN_eq hK (by omega)).mp e9
  have hlen : (P ++ [(a, b, c, d)]).length = P.length + 1 := by simp
  refine ⟨fun hn M1 e1 => ?_, fun he => ⟨Or.inr rfl, fun M1 e1 M2 e2 M3 e3 M4 e4 M5 e5 M6 e6 => ?_⟩⟩
  · have hne : K ≠ P.length := fun e => hn (z.mpr e)
    refine hq M1 (fun c' hc => by rw [e1, sd_s_o hc]) ⟨?_, ?_⟩
    · rw [e1, sd_s_self, h1, hlen, sub_sub1]
    · have eP : (P ++ [(a, b, c, d)])[K]? = P[K]? := by
        by_cases hk : K < P.length
        · rw [List.getElem?_append_left hk]
        · rw [List.getElem?_eq_none (by omega), List.getElem?_eq_none (by omega)]
      rw [eP]
      cases e : P[K]? with
      | none =>
        rw [e] at h2
        show M1 o 3 = 0
        rw [e1, sd_s_ne (by omega)]; exact h2
      | some w =>
        rw [e] at h2
        show _ ∧ _
        rw [e1, sd_s_ne (by omega), sd_s_ne (by omega), sd_s_ne (by omega), sd_s_ne (by omega), sd_s_ne (by omega)]; exact h2
  · have hKP := z.mp he
    refine hq M6 (fun c' hc => by rw [e6, sd_s_o hc, e5, sd_s_o hc, e4, sd_s_o hc, e3, sd_s_o hc, e2, sd_s_o hc, e1, sd_s_o hc]) ⟨?_, ?_⟩
    · have : M5 o 2 = M o 2 := by rw [e5, sd_s_ne (by omega), e4, sd_s_ne (by omega), e3, sd_s_ne (by omega), e2, sd_s_ne (by omega), e1, sd_s_ne (by omega)]
      rw [e6, sd_s_self, this, h1, hlen, sub_sub1]
    · have eP : (P ++ [(a, b, c, d)])[K]? = some (a, b, c, d) := by rw [hKP]; simp
      rw [eP]
      refine ⟨?_, ?_, ?_, ?_, ?_⟩
      · rw [e6, sd_s_ne (by omega), e5, sd_s_ne (by omega), e4, sd_s_ne (by omega), e3, sd_s_ne (by omega), e2, sd_s_ne (by omega), e1, sd_s_self]
      · rw [e6, sd_s_ne (by omega), e5, sd_s_ne (by omega), e4, sd_s_ne (by omega), e3, sd_s_ne (by omega), e2, sd_s_self]
      · rw [e6, sd_s_ne (by omega), e5, sd_s_ne (by omega), e4, sd_s_ne (by omega), e3, sd_s_self]
      · rw [e6, sd_s_ne (by omega), e5, sd_s_ne (by omega), e4, sd_s_self]
      · rw [e6, sd_s_ne (by omega), e5, sd_s_self]
theorem outC.isRow {M M' : sdM} {o o2 : Nat} {p : Int32} {x : Option Row} (h : outC M M' o) (hd : o2 + 4 < o) (hx : isRow M o2 p x) : isRow M' o2 p x := by
  rcases hx with ⟨rfl, rfl⟩ | ⟨n, r, hn, rfl, rfl, hr, hok⟩
  · exact Or.inl ⟨rfl, rfl⟩
  · exact Or.inr ⟨n, r, hn, rfl, rfl, ⟨by rw [h _ (by omega)]; exact hr.1, by rw [h _ (by omega)]; exact hr.2.1, fun f hf => by rw [h _ (by omega)]; exact hr.2.2 f hf⟩, hok⟩
theorem p_passLeaves {o ca ru K l k : Nat} {M0 : sdM} {pm pt : Int32} {a : Row} {z : Option Row} {Q : sdM → Prop} (hK : K < 2147483648) (hca : ca + 4 < o) (hru : ru + 4 < o) (hx : isRow M0 ca pm (some a)) (hz : isRow M0 ru pt z) : ∀ (d f : Nat) (M : sdM) (P : List Flt), f + d = 4 → P.length + d < 2147483647 → outC M0 M o → PE M o K P → (∀ M', outC M0 M' o → PE M' o K (P ++ difF l k (some a) z d f) → Q M') → h_E_passEntry_52 o ca ru Q (d + 1) M (zN l) (zN k) pm pt (zN f) := by
  intro d
  induction d with
  | zero =>
    intro f M P hf hl ho hP hq
    have : f = 4 := by omega
    subst this
    refine ⟨fun _ => hq M ho ?_, fun h => (h (by decide)).elim⟩
    rw [difF, List.append_nil]; exact hP
  | succ d ih =>
    intro f M P hf hl ho hP hq
    refine ⟨fun h => ?_, fun _ => p_sameLeaf (ho.isRow hca hx) (ho.isRow hru hz) (by omega) ⟨fun g => ?_, fun g => ?_⟩⟩
    · rw [show (4 : Int32) = zN 4 from rfl, zN_le (by decide) (by omega)] at h; omega
    · show h_E_passEntry_52 o ca ru Q (d + 1) M (zN l) (zN k) pm pt (zN f + 1)
      rw [show zN f + 1 = zN (f + 1) from zN_add f 1]
      refine ih (f + 1) M P (by omega) (by omega) ho hP (fun M' a1 a2 => hq M' a1 ?_)
      rw [difF, bI_1.mp g]
      exact a2
    · refine p_pass hK (by omega) hP (fun M' a1 a2 => ?_)
      show h_E_passEntry_52 o ca ru Q (d + 1) M' (zN l) (zN k) pm pt (zN f + 1)
      rw [show zN f + 1 = zN (f + 1) from zN_add f 1]
      refine ih (f + 1) M' _ (by omega) (by simp; omega) (ho.tr a1) a2 (fun M2 b1 b2 => hq M2 b1 ?_)
      rw [difF, bI_0.mp g]
      rw [List.append_assoc] at b2
      exact b2
theorem p_passEntry {o ca ru K l k : Nat} {M : sdM} {X Z : List Row} {P : List Flt} {Q : sdM → Prop} (hK : K < 2147483648) (hca : ca + 4 < o) (hru : ru + 4 < o) (hl : l < 4) (hk : k ≤ 100) (hX : RCl M ca l X) (hZ : RCl M ru l Z) (oX : okL X) (oZ : okL Z) (hin : (lk X k).isSome = true ∨ (lk Z k).isSome = true) (hlen : P.length + 5 < 2147483647) (hP : PE M o K P) (hq : ∀ M', outC M M' o → PE M' o K (P ++ difE l k (lk X k) (lk Z k)) → Q M') : w_E_passEntry o ca ru M (zN l) (zN k) Q := by
  refine p_rowOf hl hX oX.2.2 (p_rowOf hl hZ oZ.2.2 ?_)
  have x' : isRow M ca (rowI (12 * l) (fi X (zN k))) (lk X k) := hX.found oX hl
  have z' : isRow M ru (rowI (12 * l) (fi Z (zN k))) (lk Z k) := hZ.found oZ hl
  rw [x'.none, z'.none]
  refine ⟨fun sx => ⟨fun sz => ⟨4 + 1, ?_⟩, fun nz => ?_⟩, fun nx => ?_⟩
  · cases ex : lk X k with
    | none => exact (sx ex).elim
    | some a =>
      rw [ex] at x' hq
      refine p_passLeaves hK hca hru x' z' 4 0 M P rfl (by omega) (outC.rf _ _) hP (fun M' a1 a2 => hq M' a1 ?_)
      have : dif0 l k (some a) (lk Z k) = [] := by
        cases ez : lk Z k with
        | none => exact (sz ez).elim
        | some c => rfl
      unfold difE
      rw [this]; exact a2
  · cases ex : lk X k with
    | none => exact (sx ex).elim
    | some a =>
      rw [ex] at x' hq
      refine p_pass hK (by omega) hP (fun M' a1 a2 => ⟨4 + 1, ?_⟩)
      refine p_passLeaves hK hca hru (a1.isRow hca x') (a1.isRow hru z') 4 0 M' _ rfl (by simp; omega) (outC.rf _ _) a2 (fun M2 b1 b2 => hq M2 (a1.tr b1) ?_)
      have : dif0 l k (some a) (lk Z k) = [(zN l, zN k, -1, 1)] := by rw [nz]; rfl
      unfold difE
      rw [this, ← List.append_assoc]; exact b2
  · refine p_pass hK (by omega) hP (fun M' a1 a2 => hq M' a1 ?_)
    rw [nx] at hin ⊢
    have : dif0 l k none (lk Z k) = [(zN l, zN k, -1, 2)] := by
      cases ez : lk Z k with
      | none => rw [ez] at hin; simp at hin
      | some c => rfl
    unfold difE
    rw [this, difF_none]; exact a2
theorem difK_skip {X Z : List Row} {l d : Nat} : ∀ {n k : Nat}, (∀ i, k ≤ i → i < k + n → lk X i = none ∧ lk Z i = none) → difK X Z l (d + n) k = difK X Z l d (k + n) := by
  intro n
  induction n with
  | zero => intro k _; rfl
  | succ n ih =>
    intro k h
    obtain ⟨h1, h2⟩ := h k (by omega) (by omega)
    rw [show d + (n + 1) = (d + n) + 1 by omega, difK, h1, h2, difE_none, List.nil_append, ih (fun i a b => h i (by omega) (by omega))]
    congr 1; omega
theorem difK_jump {X Z : List Row} (hX : okL X) (hZ : okL Z) {l k : Nat} (hk : k ≤ 101) : difK X Z l (101 - k) k = difK X Z l (101 - kaft2 X Z ((k : Int) - 1)) (kaft2 X Z ((k : Int) - 1)) := by
  have h1 := kaft2_ge (X := X) (Z := Z) hk
  have h2 := kaft2_le (Z := Z) hX ((k : Int) - 1)
  have := difK_skip (X := X) (Z := Z) (l := l) (d := 101 - kaft2 X Z ((k : Int) - 1)) (n := kaft2 X Z ((k : Int) - 1) - k) (k := k) (fun i a b => kaft2_gap hX hZ a (by omega))
  rw [show 101 - kaft2 X Z ((k : Int) - 1) + (kaft2 X Z ((k : Int) - 1) - k) = 101 - k by omega, show k + (kaft2 X Z ((k : Int) - 1) - k) = kaft2 X Z ((k : Int) - 1) by omega] at this
  exact this
/-- the differences P are passed, of those in D; all of them, or the one that was looked for is there -/
def PT (P D : List Flt) (K : Nat) : Prop := ∃ T, P ++ T = D ∧ (T = [] ∨ (P[K]?).isSome = true)
theorem PE.fnd {M : sdM} {o K : Nat} {P : List Flt} (h : PE M o K P) : M o 3 = bI (P[K]?).isSome := by
  obtain ⟨-, h2⟩ := h
  cases e : P[K]? with
  | none => rw [e] at h2; exact h2
  | some w => rw [e] at h2; exact h2.1
theorem p_passList_loop {o ca ru K l : Nat} {M0 : sdM} {X Z : List Row} {Q : sdM → Prop} (hK : K < 2147483648) (hca : ca + 4 < o) (hru : ru + 4 < o) (hl : l < 4) (hX : RCl M0 ca l X) (hZ : RCl M0 ru l Z) (oX : okL X) (oZ : okL Z) (h6 : X.length ≤ 6 ∧ Z.length ≤ 6) : ∀ (n step k : Nat) (M : sdM) (P : List Flt), n + step = 12 → k ≤ 101 → step ≤ cnt X k + cnt Z k → P.length + 5 * (101 - k) < 2147483647 → outC M0 M o → PE M o K P → (∀ M' P', outC M0 M' o → PE M' o K P' → PT P' (P ++ difK X Z l (101 - k) k) K → Q M') → h_E_passList_16 o ca ru Q (n + 1) M (zN l) (zN (kaft2 X Z ((k : Int) - 1))) (zN step) := by
  intro n
  induction n with
  | zero =>
    intro step k M P hn hk hst hlen hout hP hq
    have hs : step = 12 := by omega
    subst hs
    have b2 := kaft2_le (Z := Z) oX ((k : Int) - 1)
    have b1 := kaft2_ge (X := X) (Z := Z) hk
    rw [difK_jump oX oZ hk] at hq
    have e : kaft2 X Z ((k : Int) - 1) = 101 := by
      refine Classical.byContradiction fun hne => ?_
      have m1 := cnt_mono X b1
      have m2 := cnt_mono Z b1
      have c1 := cnt_mono X (show kaft2 X Z ((k : Int) - 1) ≤ kaft2 X Z ((k : Int) - 1) + 1 by omega)
      have c2 := cnt_mono Z (show kaft2 X Z ((k : Int) - 1) ≤ kaft2 X Z ((k : Int) - 1) + 1 by omega)
      have u1 := cnt_le X (kaft2 X Z ((k : Int) - 1) + 1)
      have u2 := cnt_le Z (kaft2 X Z ((k : Int) - 1) + 1)
      rcases kaft2_mem oX oZ hne with hm | hm
      · have := isSome_lk oX (by omega) hm; omega
      · have := isSome_lk oZ (by omega) hm; omega
    rw [e] at hq
    exact ⟨fun _ => hq M P hout hP ⟨[], rfl, Or.inl rfl⟩, fun h => (h (by decide)).elim⟩
  | succ n ih =>
    intro step k M P hn hk hst hlen hout hP hq
    have b2 := kaft2_le (Z := Z) oX ((k : Int) - 1)
    have b1 := kaft2_ge (X := X) (Z := Z) hk
    rw [difK_jump oX oZ hk] at hq
    have m1 := cnt_mono X b1
    have m2 := cnt_mono Z b1
    have hin := kaft2_mem oX oZ (j := (k : Int) - 1)
    generalize kaft2 X Z ((k : Int) - 1) = q at *
    refine ⟨fun h => ?_, fun _ => ⟨fun e => ?_, fun hne => ⟨fun hf => ?_, fun _ => ?_⟩⟩⟩
    · rw [show (12 : Int32) = zN 12 from rfl, zN_le (by decide) (by omega)] at h; omega
    · rw [show (101 : Int32) = zN 101 from rfl, zN_eq (by omega) (by omega)] at e
      rw [e] at hq
      exact hq M P hout hP ⟨[], rfl, Or.inl rfl⟩
    · rw [hP.fnd] at hf
      exact hq M P hout hP ⟨_, rfl, Or.inr (bI_1.mp hf)⟩
    · rw [show (101 : Int32) = zN 101 from rfl, zN_eq (by omega) (by omega)] at hne
      have hin := hin hne
      have c1 := cnt_mono X (show q ≤ q + 1 by omega)
      have c2 := cnt_mono Z (show q ≤ q + 1 by omega)
      have hst2 : step + 1 ≤ cnt X (q + 1) + cnt Z (q + 1) := by
        rcases hin with hm | hm
        · have := isSome_lk oX (by omega) hm; omega
        · have := isSome_lk oZ (by omega) hm; omega
      rw [show 101 - q = (101 - (q + 1)) + 1 by omega, difK, ← List.append_assoc] at hq
      have hE := difE_len l q (lk X q) (lk Z q)
      refine p_passEntry hK hca hru hl (by omega) (hout.RCl hca hX) (hout.RCl hru hZ) oX oZ hin (by omega) hP (fun M' a1 a2 => ?_)
      have hout' := hout.tr a1
      rw [← zK_nat q]
      refine p_keyAfterInEither hl (hout'.RCl hca hX) (hout'.RCl hru hZ) oX oZ ⟨by omega, by omega⟩ ?_
      rw [show zN step + 1 = zN (step + 1) from zN_add step 1, show (q : Int) = ((q + 1 : Nat) : Int) - 1 by omega]
      exact ih (step + 1) (q + 1) M' _ (by omega) (by omega) hst2 (by rw [List.length_append]; omega) hout' a2 hq
theorem p_passList {o ca ru K l : Nat} {M : sdM} {X Z : List Row} {P : List Flt} {Q : sdM → Prop} (hK : K < 2147483648) (hca : ca + 4 < o) (hru : ru + 4 < o) (hl : l < 4) (hX : RCl M ca l X) (hZ : RCl M ru l Z) (oX : okL X) (oZ : okL Z) (h6 : X.length ≤ 6 ∧ Z.length ≤ 6) (hlen : P.length + 505 < 2147483647) (hP : PE M o K P) (hq : ∀ M' P', outC M M' o → PE M' o K P' → PT P' (P ++ difK X Z l 101 0) K → Q M') : w_E_passList o ca ru M (zN l) Q := by
  show w_S_keyAfterInEither ca M ru (zN l) (zK (-1)) _
  refine p_keyAfterInEither hl hX hZ oX oZ ⟨by omega, by omega⟩ ⟨12 + 1, ?_⟩
  exact p_passList_loop hK hca hru hl hX hZ oX oZ h6 12 0 0 M P rfl (by omega) (by omega) (by omega) (outC.rf _ _) hP hq
theorem PT.get {P D E : List Flt} {K : Nat} (h : PT P D K) (hs : (P[K]?).isSome = true) : (D ++ E)[K]? = P[K]? := by
  obtain ⟨T, e, -⟩ := h
  have hk : K < P.length := by
    obtain ⟨w, hw⟩ := Option.isSome_iff_exists.mp hs
    exact (List.getElem?_eq_some_iff.mp hw).1
  rw [← e, List.append_assoc, List.getElem?_append_left hk]
theorem p_isThere_loop {o ca ru K : Nat} {M0 : sdM} {X Z : ASet} {Q : Int32 → sdM → Prop} (hK : K < 2147483648) (hca : ca + 4 < o) (hru : ru + 4 < o) (hX : RC M0 ca X) (hZ : RC M0 ru Z) (oX : okS X) (oZ : okS Z) (h6 : ∀ l, l < 4 → (X l).length ≤ 6 ∧ (Z l).length ≤ 6) : ∀ (d l : Nat) (M : sdM) (P D : List Flt), l + d = 4 → D.length + 505 * d < 2147483647 → outC M0 M o → PE M o K P → PT P D K → (∀ M' P', outC M0 M' o → PE M' o K P' → P'[K]? = (D ++ difS X Z d l)[K]? → Q (bI (P'[K]?).isSome) M') → h_E_isThere_2 o ca ru Q (d + 1) M (zN l) := by
  intro d
  induction d with
  | zero =>
    intro l M P D hl hlen hout hP hT hq
    have : l = 4 := by omega
    subst this
    refine ⟨fun _ => ⟨by rw [hP.fnd]; exact bI_B _, ?_⟩, fun h => (h (by decide)).elim⟩
    rw [hP.fnd]
    refine hq M P hout hP ?_
    obtain ⟨T, e, ht⟩ := hT
    rcases ht with rfl | hs
    · rw [List.append_nil] at e; rw [e, difS, List.append_nil]
    · exact (PT.get ⟨T, e, Or.inr hs⟩ hs).symm
  | succ d ih =>
    intro l M P D hl hlen hout hP hT hq
    refine ⟨fun h => ?_, fun _ => ⟨fun hf => ⟨by rw [hP.fnd]; exact bI_B _, ?_⟩, fun hf => ?_⟩⟩
    · rw [show (4 : Int32) = zN 4 from rfl, zN_le (by decide) (by omega)] at h; omega
    · rw [hP.fnd] at hf
      rw [hP.fnd]
      exact hq M P hout hP (hT.get (bI_1.mp hf)).symm
    · rw [hP.fnd] at hf
      have hf := bI_0.mp hf
      have e : P = D := by
        obtain ⟨T, e, ht⟩ := hT
        rcases ht with rfl | hs
        · rw [List.append_nil] at e; exact e
        · rw [hf] at hs; cases hs
      subst e
      have hE := difK_len (X l) (Z l) l 101 0
      obtain ⟨D2, eD⟩ : ∃ D2, difK (X l) (Z l) l 101 0 = D2 := ⟨_, rfl⟩
      rw [eD] at hE
      have hl9 : P.length + 505 < 2147483647 := by
        clear hE eD hq hT hP hout hX hZ oX oZ h6 ih hf
        have h5 : 505 ≤ 505 * (d + 1) := by omega
        exact Nat.lt_of_le_of_lt (Nat.add_le_add_left h5 _) hlen
      refine p_passList hK hca hru (by omega) (hout.RCl hca (hX l (by omega))) (hout.RCl hru (hZ l (by omega))) (oX l (by omega)) (oZ l (by omega)) (h6 l (by omega)) hl9 hP (fun M' P' a1 a2 a3 => ?_)
      rw [show zN l + 1 = zN (l + 1) from zN_add l 1]
      refine ih (l + 1) M' P' _ (by omega) (by rw [List.length_append, eD]; omega) (hout.tr a1) a2 a3 (fun M2 P2 b1 b2 b3 => hq M2 P2 b1 b2 ?_)
      rw [b3, difS, List.append_assoc]
theorem p_isThere {o ca ru K : Nat} {M : sdM} {X Z : ASet} {Q : Int32 → sdM → Prop} (hK : K < 2147483648) (hca : ca + 4 < o) (hru : ru + 4 < o) (hX : RC M ca X) (hZ : RC M ru Z) (oX : okS X) (oZ : okS Z) (h6 : ∀ l, l < 4 → (X l).length ≤ 6 ∧ (Z l).length ≤ 6) (h2 : M o 2 = zN K) (h3 : M o 3 = 0) (h0 : ∀ M', (difS X Z 4 0)[K]? = none → outC M M' o → Q 0 M') (h1 : ∀ w M', (difS X Z 4 0)[K]? = some w → outC M M' o → M' o 4 = w.1 → M' o 5 = w.2.1 → M' o 6 = w.2.2.1 → M' o 7 = w.2.2.2 → Q 1 M') : w_E_isThere o ca ru M Q := by
  refine ⟨4 + 1, p_isThere_loop hK hca hru hX hZ oX oZ h6 4 0 M [] [] rfl (by simp) (outC.rf _ _) ⟨?_, ?_⟩ ⟨[], rfl, Or.inl rfl⟩ (fun M' P' a1 a2 a3 => ?_)⟩
  · rw [h2, show ([] : List Flt).length = 0 from rfl, show zN 0 = 0 from rfl]; simp
  · simpa using h3
  · rw [List.nil_append] at a3
    obtain ⟨-, a2⟩ := a2
    rw [a3] at a2 ⊢
    cases e : (difS X Z 4 0)[K]? with
    | none => exact h0 M' e a1
    | some w =>
      rw [e] at a2
      exact h1 w M' e a1 a2.2.1 a2.2.2.1 a2.2.2.2.1 a2.2.2.2.2
theorem zN_div {a b : Nat} (ha : a < 2147483648) (hb : b < 2147483648) (h0 : 0 < b) : zN a / zN b = zN (a / b) := by
  apply Int32.toInt_inj.mp
  have hle : a / b ≤ a := Nat.div_le_self a b
  rw [Int32.toInt_div, zN_int ha, zN_int hb, zN_int (by omega)]
  have e : (a : Int).tdiv (b : Int) = ((a / b : Nat) : Int) := by
    rw [Int.tdiv_eq_ediv_of_nonneg (by omega)]; rfl
  rw [e]
  clear e
  generalize a / b = q at *
  exact Int.bmod_eq_of_le (by omega) (by omega)
def difI (X Z : ASet) : Nat → Nat → List Flt
  | 0, _ => []
  | d + 1, i => difE (i / 101) (i % 101) (lk (X (i / 101)) (i % 101)) (lk (Z (i / 101)) (i % 101)) ++ difI X Z d (i + 1)
theorem difI_add (X Z : ASet) : ∀ a b i, difI X Z (a + b) i = difI X Z a i ++ difI X Z b (i + a) := by
  intro a
  induction a with
  | zero => intro b i; rw [Nat.zero_add]; rfl
  | succ a ih =>
    intro b i
    rw [show a + 1 + b = (a + b) + 1 by omega, difI, difI, ih, List.append_assoc, show i + 1 + a = i + (a + 1) by omega]
theorem difI_K (X Z : ASet) (l : Nat) : ∀ d k, k + d = 101 → difI X Z d (101 * l + k) = difK (X l) (Z l) l d k := by
  intro d
  induction d with
  | zero => intro k _; rfl
  | succ d ih =>
    intro k hk
    rw [difI, difK, show (101 * l + k) / 101 = l by omega, show (101 * l + k) % 101 = k by omega, Nat.add_assoc, ih (k + 1) (by omega)]
theorem difI_S (X Z : ASet) : ∀ d l, difI X Z (101 * d) (101 * l) = difS X Z d l := by
  intro d
  induction d with
  | zero => intro l; rfl
  | succ d ih =>
    intro l
    rw [show 101 * (d + 1) = 101 + 101 * d by omega, difI_add, difS, show 101 * l + 101 = 101 * (l + 1) by omega, ih, show 101 * l = 101 * l + 0 by omega, difI_K X Z l 101 0 rfl]
/-- the kind of a difference of an entry at f (-1: of the entry itself) -/
def dknd (x z : Option Row) (f : Int32) : Int32 := if 0 ≤ f then (if x.isSome && !sameL x z f.toNatClampNeg then 3 else 0) else (if x.isSome == z.isSome then 0 else if x.isSome then 1 else 2)
theorem m_differs {M : sdM} {p q f : Int32} {x z : Option Row} {Q : Int32 → sdM → Prop} (hx : isRowM M p x) (hz : isRowM M q z) (hf : 0 ≤ f → ∃ g, g < 4 ∧ f = zN g) (hq : Q (dknd x z f) M) : w_O_differs M p q f Q := by
  have lt0 : ∀ p : Int32, p < 0 ↔ ¬ 0 ≤ p := by
    intro p; rw [Int32.lt_iff_toInt_lt, Int32.le_iff_toInt_le]; omega
  have main : k_O_differs_20 Q M p q f (bI x.isSome) (bI z.isSome) := by
    refine ⟨fun h => ?_, fun h => ?_⟩
    · obtain ⟨g, hg, rfl⟩ := hf h
      unfold dknd at hq
      rw [if_pos h, zN_nat (by omega)] at hq
      refine ⟨fun e => ?_, fun e => m_alike hx hz hg ⟨fun e2 => ?_, fun e2 => ?_⟩⟩
      · rw [bI_0.mp e] at hq; exact hq
      · rw [bI_1.mp e2] at hq; simp at hq; exact hq
      · rw [bI_1.mp e, bI_0.mp e2] at hq; exact hq
    · unfold dknd at hq
      rw [if_neg h] at hq
      rw [bI_eq]
      refine ⟨fun e => ⟨fun e2 => ?_, fun e2 => ?_⟩, fun e => ?_⟩
      · rw [if_neg (by simpa using e), bI_0.mp e2] at hq; exact hq
      · rw [if_neg (by simpa using e), bI_1.mp e2] at hq; exact hq
      · rw [if_pos (by simpa using e)] at hq; exact hq
  have sx := hx.sgn
  have sz := hz.sgn
  have fin : ∀ s0 s1 : Int32, s0 = bI x.isSome → s1 = bI z.isSome → k_O_differs_20 Q M p q f s0 s1 := by
    intro s0 s1 e0 e1; rw [e0, e1]; exact main
  refine ⟨fun h => ⟨fun g => fin _ _ ?_ ?_, fun g => fin _ _ ?_ ?_⟩, fun h => ⟨fun g => fin _ _ ?_ ?_, fun g => fin _ _ ?_ ?_⟩⟩
  all_goals first
    | (rw [lt0, sx, Bool.not_eq_true] at h; rw [h]; rfl)
    | (rw [lt0, Classical.not_not, sx] at h; rw [h]; rfl)
    | (rw [lt0, sz, Bool.not_eq_true] at g; rw [g]; rfl)
    | (rw [lt0, Classical.not_not, sz] at g; rw [g]; rfl)
/-- M' is M, where the model has noted a difference -/
def FndK (M M' : sdM) (w : Flt) : Prop := (∀ c, c ≠ 116 → M' c = M c) ∧ (∀ j, j < 31 → M' 116 j = M 116 j) ∧ M' 116 31 = w.1 ∧ M' 116 32 = w.2.1 ∧ M' 116 33 = w.2.2.1 ∧ M' 116 34 = w.2.2.2
/-- the difference of the number a, if there is one -/
def pickI (D : List Flt) (a : Int32) : Option Flt := if a < 0 then none else D[a.toNatClampNeg]?
/-- none of the first n numbers is a -/
def noI (n : Nat) (a : Int32) : Prop := ∀ j, j < n → zN j ≠ a
theorem pickI_at {P E : List Flt} {w : Flt} {a : Int32} (h : zN P.length = a) (hl : P.length < 2147483648) : pickI (P ++ w :: E) a = some w := by
  unfold pickI
  rw [← h, if_neg (zN_ge hl), zN_nat hl]; simp
theorem pickI_no {D : List Flt} {a : Int32} (h : noI D.length a) : pickI D a = none := by
  unfold pickI
  split
  · rfl
  · rename_i hn
    obtain ⟨K, hK, e⟩ := zN_of hn
    rw [e, zN_nat hK]
    refine List.getElem?_eq_none (Nat.not_lt.mp fun hlt => h K hlt e.symm)
theorem m_step {s i l k : Nat} {M : sdM} {a p q f : Int32} {x z : Option Row} {P : List Flt} {Q : Int32 → sdM → Prop} {k5 : sdM → Int32 → Int32 → Int32 → Int32 → Prop} {n : Nat} (hi : i < 404) (hl : i / 101 = l) (hk : i % 101 = k) (hx : isRowM M p x) (hz : isRowM M q z) (hf : 0 ≤ f → ∃ g, g < 4 ∧ f = zN g) (hlt : ¬ (4 : Int32) ≤ f) (hP : P.length < 2147483647) (hno : noI P.length a)
    (h0 : dknd x z f = 0 → h_O_isDifference_53 Q k5 n M (zN s) a (zN P.length) (zN i) p q (f + 1))
    (h1 : ¬ dknd x z f = 0 → ¬ zN P.length = a → h_O_isDifference_53 Q k5 n M (zN s) a (zN (P.length + 1)) (zN i) p q (f + 1))
    (h2 : ∀ M', ¬ dknd x z f = 0 → zN P.length = a → FndK M M' (zN l, zN k, f, dknd x z f) → Q 1 M') : h_O_isDifference_53 Q k5 (n + 1) M (zN s) a (zN P.length) (zN i) p q f := by
  have dk : dknd x z f = 0 ∨ dknd x z f = 1 ∨ dknd x z f = 2 ∨ dknd x z f = 3 := by
    unfold dknd
    split
    · split <;> simp
    · split
      · simp
      · split <;> simp
  have pos : ¬ dknd x z f ≤ 0 ↔ ¬ dknd x z f = 0 := by
    rcases dk with e | e | e | e <;> rw [e] <;> decide
  have neg : dknd x z f ≤ 0 ↔ dknd x z f = 0 := by
    rcases dk with e | e | e | e <;> rw [e] <;> decide
  refine ⟨fun h => absurd h hlt, fun _ => m_differs hx hz hf ⟨fun g => ⟨fun _ => h0 (neg.mp g), fun g2 => absurd g g2⟩, fun g => ⟨fun hne => ⟨fun g2 => absurd g2 g, fun _ => ?_⟩, fun he M1 e1 => ?_⟩⟩⟩
  · show h_O_isDifference_53 Q k5 n M (zN s) a (zN P.length + zN 1) (zN i) p q (f + 1)
    rw [zN_add]
    exact h1 (pos.mp g) hne
  · rw [show (101 : Int32) = zN 101 from rfl, zN_div (by omega) (by omega) (by omega), hl, zN_mul, zN_sub (by omega), show i - l * 101 = k by omega]
    refine Fnd.of (fun M2 hF => ⟨Or.inr rfl, h2 M2 (pos.mp g) he ⟨fun c hc => ?_, fun j hj => ?_, hF.2.2.1, hF.2.2.2.1, hF.2.2.2.2, ?_⟩⟩)
    · rw [hF.1 c hc, e1, sd_s_o hc]
    · rw [hF.2.1 j (by omega) (by omega) (by omega), e1, sd_s_ne (by omega)]
    · rw [hF.2.1 34 (by omega) (by omega) (by omega), e1, sd_s_self]
theorem noI.next {n : Nat} {a : Int32} (h : noI n a) (h1 : ¬ zN n = a) : noI (n + 1) a := fun j hj => by
  by_cases e : j = n
  · rw [e]; exact h1
  · exact h j (by omega)
theorem m_leafs {s i l k : Nat} {M : sdM} {a p q : Int32} {x z : Option Row} {Q : Int32 → sdM → Prop} {k5 : sdM → Int32 → Int32 → Int32 → Int32 → Prop} {E : List Flt} (hi : i < 404) (hl : i / 101 = l) (hk : i % 101 = k) (hx : isRowM M p x) (hz : isRowM M q z) : ∀ (d f : Nat) (P : List Flt), f + d = 4 → P.length + d < 2147483647 → noI P.length a → (∀ P', P' = P ++ difF l k x z d f → noI P'.length a → k5 M (zN s) a (zN P'.length) (zN (i + 1))) → (∀ w M', pickI (P ++ difF l k x z d f ++ E) a = some w → FndK M M' w → Q 1 M') → h_O_isDifference_53 Q k5 (d + 1) M (zN s) a (zN P.length) (zN i) p q (zN f) := by
  intro d
  induction d with
  | zero =>
    intro f P hf hlen hno h0 h1
    have : f = 4 := by omega
    subst this
    refine ⟨fun _ => ?_, fun h => (h (by decide)).elim⟩
    rw [show zN i + 1 = zN (i + 1) from zN_add i 1]
    exact h0 P (by rw [difF, List.append_nil]) hno
  | succ d ih =>
    intro f P hf hlen hno h0 h1
    have hd : dknd x z (zN f) = if x.isSome && !sameL x z f then 3 else 0 := by
      unfold dknd
      rw [if_pos (by rw [show (0 : Int32) = zN 0 from rfl, zN_le (by omega) (by omega)]; omega), zN_nat (by omega)]
    rw [difF] at h0 h1
    refine m_step hi hl hk hx hz (fun _ => ⟨f, by omega, rfl⟩) (by rw [show (4 : Int32) = zN 4 from rfl, zN_le (by omega) (by omega)]; omega) (by omega) hno (fun e => ?_) (fun e hne => ?_) (fun M' e he hF => ?_)
    · rw [show zN f + 1 = zN (f + 1) from zN_add f 1]
      rw [hd] at e
      have c : (x.isSome && !sameL x z f) = false := by
        cases h : (x.isSome && !sameL x z f) with
        | false => rfl
        | true => rw [h] at e; exact absurd e (by decide)
      rw [c] at h0 h1
      exact ih (f + 1) P (by omega) (by omega) hno h0 h1
    · rw [show zN f + 1 = zN (f + 1) from zN_add f 1]
      rw [hd] at e
      have c : (x.isSome && !sameL x z f) = true := by
        cases h : (x.isSome && !sameL x z f) with
        | true => rfl
        | false => rw [h] at e; exact absurd rfl e
      rw [c, if_pos rfl, ← List.append_assoc] at h0 h1
      have := ih (f + 1) (P ++ [(zN l, zN k, zN f, 3)]) (by omega) (by simp; omega) (by simpa using hno.next hne) h0 h1
      simpa using this
    · have c : (x.isSome && !sameL x z f) = true := by
        cases h : (x.isSome && !sameL x z f) with
        | true => rfl
        | false => rw [hd, h] at e; exact absurd rfl e
      rw [hd, c, if_pos rfl] at hF
      rw [c, if_pos rfl] at h1
      refine h1 _ M' ?_ hF
      rw [List.append_assoc, List.singleton_append, List.cons_append]
      exact pickI_at he (by omega)
theorem m_isDiff_loop {s : Nat} {M : sdM} {a : Int32} {X Z : ASet} {Q : Int32 → sdM → Prop} (hs : s < 3) (hX : RM M (10 + s) X) (hZ : RM M 0 Z) (oX : okS X) (oZ : okS Z) : ∀ (d i : Nat) (P : List Flt), i + d = 404 → P.length + 5 * d < 2147483647 → noI P.length a → (pickI (P ++ difI X Z d i) a = none → Q 0 M) → (∀ w M', pickI (P ++ difI X Z d i) a = some w → FndK M M' w → Q 1 M') → h_O_isDifference_5 Q (d + 1) M (zN s) a (zN P.length) (zN i) := by
  intro d
  induction d with
  | zero =>
    intro i P hi hlen hno h0 h1
    have : i = 404 := by omega
    subst this
    refine ⟨fun _ => ⟨Or.inl rfl, h0 ?_⟩, fun h => (h (by decide)).elim⟩
    rw [difI, List.append_nil]
    exact pickI_no hno
  | succ d ih =>
    intro i P hi hlen hno h0 h1
    have hl4 : i / 101 < 4 := by omega
    have hi4 : i < 404 := by omega
    have hk100 : i % 101 ≤ 100 := by omega
    refine ⟨fun h => ?_, fun _ => ?_⟩
    · rw [show (404 : Int32) = zN 404 from rfl, zN_le (by decide) (by omega)] at h; omega
    · rw [show (101 : Int32) = zN 101 from rfl, zN_div (by omega) (by omega) (by omega), zN_mul, zN_sub (by omega), show i - i / 101 * 101 = i % 101 by omega, show (10 : Int32) = zN 10 from rfl, zN_add]
      refine m_find (by omega) hl4 (hX _ hl4) (oX _ hl4) (m_find (s := 0) (by omega) hl4 (hZ _ hl4) (oZ _ hl4) ⟨4 + 1 + 1, ?_⟩)
      have x' : isRowM M (rowI (48 * (10 + s) + 12 * (i / 101)) (fi (X (i / 101)) (zN (i % 101)))) (lk (X (i / 101)) (i % 101)) := (hX _ hl4).found (oX _ hl4) (by omega) hl4
      have z' : isRowM M (rowI (48 * 0 + 12 * (i / 101)) (fi (Z (i / 101)) (zN (i % 101)))) (lk (Z (i / 101)) (i % 101)) := (hZ _ hl4).found (oZ _ hl4) (by omega) hl4
      rw [difI] at h0 h1
      generalize lk (X (i / 101)) (i % 101) = x at *
      generalize lk (Z (i / 101)) (i % 101) = z at *
      have hd : dknd x z (-1) = if x.isSome == z.isSome then 0 else if x.isSome then 1 else 2 := rfl
      have hE := difE_len (i / 101) (i % 101) x z
      have next : ∀ P' : List Flt, P' = P ++ difE (i / 101) (i % 101) x z → noI P'.length a → h_O_isDifference_5 Q (d + 1) M (zN s) a (zN P'.length) (zN (i + 1)) := by
        intro P' e hn
        subst e
        refine ih (i + 1) _ (by omega) (by rw [List.length_append]; omega) hn (fun g => h0 ?_) (fun w M' g hF => h1 w M' ?_ hF)
        · rw [← List.append_assoc]; exact g
        · rw [← List.append_assoc]; exact g
      refine m_step hi4 rfl rfl x' z' (fun h => absurd h (by decide)) (by decide) (by omega) hno (fun e => ?_) (fun e hne => ?_) (fun M' e he hF => ?_)
      · have c : dif0 (i / 101) (i % 101) x z = [] := by
          rw [hd] at e
          unfold dif0
          split
          · rfl
          · rename_i hc; rw [if_neg hc] at e
            split at e <;> exact absurd e (by decide)
        rw [show (-1 : Int32) + 1 = zN 0 from rfl]
        refine m_leafs (E := difI X Z d (i + 1)) hi4 rfl rfl x' z' 4 0 P rfl (by omega) hno (fun P' e' hn => next P' ?_ hn) (fun w M' g hF => h1 w M' ?_ hF)
        · rw [e', difE, c, List.nil_append]
        · rw [difE, c, List.nil_append, ← List.append_assoc]; exact g
      · have c : dif0 (i / 101) (i % 101) x z = [(zN (i / 101), zN (i % 101), -1, if x.isSome then 1 else 2)] := by
          rw [hd] at e
          unfold dif0
          split
          · rename_i hc; rw [if_pos hc] at e; exact absurd rfl e
          · rfl
        rw [show (-1 : Int32) + 1 = zN 0 from rfl]
        have := m_leafs (s := s) (Q := Q) (k5 := fun M x1 x2 x3 x4 => h_O_isDifference_5 Q (d + 1) M x1 x2 x3 x4) (a := a) (E := difI X Z d (i + 1)) hi4 rfl rfl x' z' 4 0 (P ++ [(zN (i / 101), zN (i % 101), -1, if x.isSome then 1 else 2)]) rfl (by simp; omega) (by simpa using hno.next hne) (fun P' e' hn => next P' (by rw [e', difE, c, List.append_assoc]) hn) (fun w M' g hF => h1 w M' (by rw [difE, c, ← List.append_assoc, ← List.append_assoc]; exact g) hF)
        simpa using this
      · have c : dif0 (i / 101) (i % 101) x z = [(zN (i / 101), zN (i % 101), -1, if x.isSome then 1 else 2)] ∧ dknd x z (-1) = if x.isSome then 1 else 2 := by
          rw [hd] at e ⊢
          unfold dif0
          split
          · rename_i hc; rw [if_pos hc] at e; exact absurd rfl e
          · exact ⟨rfl, rfl⟩
        rw [c.2] at hF
        refine h1 _ M' ?_ hF
        rw [difE, c.1, List.append_assoc, List.singleton_append]
        exact pickI_at he (by omega)
theorem m_isDifference {s : Nat} {M : sdM} {a : Int32} {X Z : ASet} {Q : Int32 → sdM → Prop} (hs : s < 3) (hX : RM M (10 + s) X) (hZ : RM M 0 Z) (oX : okS X) (oZ : okS Z) (h0 : pickI (difS X Z 4 0) a = none → Q 0 M) (h1 : ∀ w M', pickI (difS X Z 4 0) a = some w → FndK M M' w → Q 1 M') : w_O_isDifference M (zN s) a Q := by
  have e : difI X Z 404 0 = difS X Z 4 0 := difI_S X Z 4 0
  rw [← e] at h0 h1
  refine ⟨404 + 1, m_isDiff_loop hs hX hZ oX oZ 404 0 [] rfl (by show 0 + 5 * 404 < 2147483647; omega) (fun j hj => by simp at hj) ?_ ?_⟩
  · rw [List.nil_append]; exact h0
  · rw [List.nil_append]; exact h1
