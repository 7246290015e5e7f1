def zN (a : Nat) : Int32 := Int32.ofNat a
theorem zN_int {a : Nat} (h : a < 2147483648) : (zN a).toInt = a := by
  unfold zN
  exact Int32.toInt_ofNat_of_lt h
theorem zN_nat {a : Nat} (h : a < 2147483648) : (zN a).toNatClampNeg = a := by
  have h1 := zN_int h
  unfold Int32.toNatClampNeg
  rw [h1]; simp
theorem zN_lt {a b : Nat} (h : a < 2147483648) (h' : b < 2147483648) : zN a < zN b ↔ a < b := by
  rw [Int32.lt_iff_toInt_lt, zN_int h, zN_int h']; omega
theorem zN_le {a b : Nat} (h : a < 2147483648) (h' : b < 2147483648) : zN a ≤ zN b ↔ a ≤ b := by
  rw [Int32.le_iff_toInt_le, zN_int h, zN_int h']; omega
theorem zN_eq {a b : Nat} (h : a < 2147483648) (h' : b < 2147483648) : zN a = zN b ↔ a = b := by
  refine ⟨fun e => ?_, fun e => by rw [e]⟩
  have := congrArg Int32.toInt e
  rw [zN_int h, zN_int h'] at this; omega
theorem zN_add (a b : Nat) : zN a + zN b = zN (a + b) := (Int32.ofNat_add a b).symm
theorem zN_mul (a b : Nat) : zN a * zN b = zN (a * b) := (Int32.ofNat_mul a b).symm
theorem zN_sub {a b : Nat} (h : b ≤ a) : zN a - zN b = zN (a - b) := by
  have := zN_add (a - b) b
  rw [Nat.sub_add_cancel h] at this
  rw [← this]
  simp
theorem zN_ge {a : Nat} (h : a < 2147483648) : ¬ zN a < 0 := by
  rw [show (0 : Int32) = zN 0 from rfl, zN_lt h (by decide)]; omega
theorem zN_m1 {a : Nat} (h : a < 2147483648) : ¬ zN a = -1 := by
  intro e
  have := congrArg Int32.toInt e
  rw [zN_int h, show (-1 : Int32).toInt = -1 from rfl] at this; omega
theorem zN_in {a n : Nat} (h : a < 2147483648) : vp_in (zN a) n ↔ a < n := by
  unfold vp_in
  rw [zN_nat h]
  have := zN_ge h
  constructor
  · intro g; exact Nat.not_le.mp fun q => g (Or.inr q)
  · intro g q; rcases q with q | q
    · exact this q
    · omega
theorem zN_of {x : Int32} (h : ¬ x < 0) : ∃ a, a < 2147483648 ∧ x = zN a := by
  refine ⟨x.toNatClampNeg, ?_, ?_⟩
  · have := x.toInt_lt; unfold Int32.toNatClampNeg; omega
  · apply Int32.toInt_inj.mp
    have h0 : ¬ x.toInt < 0 := fun q => h (Int32.lt_iff_toInt_lt.mpr q)
    have h1 := x.toInt_lt
    rw [zN_int (by unfold Int32.toNatClampNeg; omega)]
    unfold Int32.toNatClampNeg; omega
theorem zN_c0 : (0 : Int32) = zN 0 := rfl
theorem sd_s_self (M : sdM) (t i : Nat) (x : Int32) : sd_s M t i x t i = x := by simp [sd_s, va_up, upd]
theorem sd_s_ne {M : sdM} {t i j : Nat} {x : Int32} (h : j ≠ i) : sd_s M t i x t j = M t j := by simp [sd_s, va_up, upd, h]
theorem sd_s_o {M : sdM} {t i c : Nat} {x : Int32} (h : c ≠ t) : sd_s M t i x c = M c := by simp [sd_s, va_up, h]
/-- a row of a list: its key, a bit for each leaf that is set, the leaves' values -/
abbrev Row : Type := Nat × Nat × (Nat → Int32)
abbrev ASet : Type := Nat → List Row
def okR (r : Row) : Prop := r.1 ≤ 100 ∧ r.2.1 < 16 ∧ ∀ f, ¬ (f < 4 ∧ r.2.1.testBit f = true) → r.2.2 f = 0
def okL (R : List Row) : Prop := (∀ r ∈ R, okR r) ∧ R.Pairwise (fun a b => a.1 < b.1) ∧ R.length ≤ 12
def rowAt (M : sdM) (o p : Nat) (r : Row) : Prop := M (o + 2) p = zN r.1 ∧ M (o + 4) p = zN r.2.1 ∧ ∀ f, f < 4 → M (o + 3) (4 * p + f) = r.2.2 f
/-- list l of the class's set o holds the rows R -/
def RCl (M : sdM) (o l : Nat) (R : List Row) : Prop := M (o + 1) l = zN R.length ∧ ∀ i r, R[i]? = some r → rowAt M o (12 * l + i) r
def RC (M : sdM) (o : Nat) (A : ASet) : Prop := ∀ l, l < 4 → RCl M o l (A l)
def rowAtM (M : sdM) (p : Nat) (r : Row) : Prop := M 130 p = zN r.1 ∧ M 131 p = zN r.2.1 ∧ ∀ f, f < 4 → r.2.1.testBit f = true → M 132 (4 * p + f) = r.2.2 f
/-- list l of the model's set s holds the rows R -/
def RMl (M : sdM) (s l : Nat) (R : List Row) : Prop := M 129 (4 * s + l) = zN R.length ∧ ∀ i r, R[i]? = some r → rowAtM M (48 * s + 12 * l + i) r
def RM (M : sdM) (s : Nat) (A : ASet) : Prop := ∀ l, l < 4 → RMl M s l (A l)
/-- the place of the key k among the rows -/
def fi (R : List Row) (k : Int32) : Option Nat := R.findIdx? (fun r => zN r.1 == k)
/-- a row's number, as both programs answer it -/
def rowI (base : Nat) : Option Nat → Int32
  | none => -1
  | some i => zN (base + i)
theorem bitC {b f : Nat} (hb : b < 16) (hf : f < 4) : ((zN b &&& ((1 : Int32) <<< (zN f &&& 31))) = 0) ↔ ¬ b.testBit f = true := by
  have h : ∀ b, b < 16 → ∀ f, f < 4 → (((zN b &&& ((1 : Int32) <<< (zN f &&& 31))) = 0) ↔ ¬ b.testBit f = true) := by decide
  exact h b hb f hf
theorem bitM {b f : Nat} (hb : b < 16) (hf : f < 4) : (((zN b >>> (zN f &&& 31)) &&& (1 : Int32)) = 1) ↔ b.testBit f = true := by
  have h : ∀ b, b < 16 → ∀ f, f < 4 → ((((zN b >>> (zN f &&& 31)) &&& (1 : Int32)) = 1) ↔ b.testBit f = true) := by decide
  exact h b hb f hf
/-- rowOf, from the row 12 l + i on -/
theorem p_rowOf_loop {o l : Nat} {M : sdM} {R : List Row} {k : Int32} {Q : Int32 → sdM → Prop} (hl : l < 4) (h : RCl M o l R) (hR : R.length ≤ 12) : ∀ (d i : Nat), i + d = R.length → (∀ j r, j < i → R[j]? = some r → ¬ zN r.1 = k) → Q (rowI (12 * l) (fi R k)) M → h_S_rowOf_6 o Q (d + 1) M (zN l) k (zN (12 * l + i)) := by
  intro d
  induction d with
  | zero =>
    intro i hi hno hq
    refine ⟨(zN_in (by omega)).mpr hl, fun _ => ?_, fun hn => ?_⟩
    · have hf : fi R k = none := by
        unfold fi
        rw [List.findIdx?_eq_none_iff]
        intro x hx
        obtain ⟨j, hj⟩ := List.mem_iff_getElem?.mp hx
        have hjl : j < R.length := (List.getElem?_eq_some_iff.mp hj).1
        simpa using hno j x (by omega) hj
      rw [hf] at hq
      exact hq
    · exfalso
      apply hn
      rw [zN_nat (by omega), h.1, show (12 : Int32) = zN 12 from rfl, zN_mul, zN_add, zN_le (by omega) (by omega)]
      omega
  | succ d ih =>
    intro i hi hno hq
    have hil : i < R.length := by omega
    obtain ⟨r, hr⟩ : ∃ r, R[i]? = some r := ⟨R[i], List.getElem?_eq_getElem hil⟩
    have hrow := h.2 i r hr
    refine ⟨(zN_in (by omega)).mpr hl, fun hn => ?_, fun _ => ?_⟩
    · exfalso
      rw [zN_nat (by omega), h.1, show (12 : Int32) = zN 12 from rfl, zN_mul, zN_add, zN_le (by omega) (by omega)] at hn
      omega
    · refine ⟨(zN_in (by omega)).mpr (by omega), fun hne => ?_, fun he => ?_⟩
      · rw [zN_nat (by omega), hrow.1] at hne
        rw [show (1 : Int32) = zN 1 from rfl, zN_add, show 12 * l + i + 1 = 12 * l + (i + 1) by omega]
        refine ih (i + 1) (by omega) (fun j r' hj hr' => ?_) hq
        by_cases hji : j = i
        · subst hji
          rw [hr] at hr'
          cases hr'
          exact hne
        · exact hno j r' (by omega) hr'
      · rw [zN_nat (by omega), hrow.1] at he
        have hf : fi R k = some i := by
          unfold fi
          rw [List.findIdx?_eq_some_iff_getElem]
          refine ⟨hil, ?_, fun j hj => ?_⟩
          · have : R[i] = r := by rw [List.getElem?_eq_getElem hil] at hr; exact Option.some.inj hr
            simp [this, he]
          · have := hno j R[j] hj (List.getElem?_eq_getElem (by omega))
            simpa using this
        rw [hf] at hq
        exact hq
theorem p_rowOf {o l : Nat} {M : sdM} {R : List Row} {k : Int32} {Q : Int32 → sdM → Prop} (hl : l < 4) (h : RCl M o l R) (hR : R.length ≤ 12) (hq : Q (rowI (12 * l) (fi R k)) M) : w_S_rowOf o M (zN l) k Q := by
  refine ⟨R.length + 1, ?_⟩
  have := p_rowOf_loop (o := o) (k := k) (Q := Q) hl h hR R.length 0 (by omega) (fun j r hj => by omega) hq
  rw [show (12 : Int32) = zN 12 from rfl, zN_mul, show l * 12 = 12 * l + 0 by omega]
  exact this
def lvB (x : Option Row) (f : Nat) : Bool := match x with
  | none => false
  | some r => r.2.1.testBit f
def lvV (x : Option Row) (f : Nat) : Int32 := match x with
  | none => 0
  | some r => r.2.2 f
def bI (c : Bool) : Int32 := if c then 1 else 0
theorem bI_0 {c : Bool} : bI c = 0 ↔ c = false := by cases c <;> decide
theorem bI_1 {c : Bool} : ¬ bI c = 0 ↔ c = true := by cases c <;> decide
theorem bI_B (c : Bool) : sdB (bI c) := by cases c <;> simp [bI, sdB]
theorem bI_eq {c d : Bool} : bI c = bI d ↔ c = d := by cases c <;> cases d <;> decide
/-- p is the number of the row x of the class's set o, or -1 where x is none -/
def isRow (M : sdM) (o : Nat) (p : Int32) (x : Option Row) : Prop := (p = -1 ∧ x = none) ∨ ∃ n r, n < 48 ∧ p = zN n ∧ x = some r ∧ rowAt M o n r ∧ okR r
theorem p_isGiven {o f : Nat} {M : sdM} {p : Int32} {x : Option Row} {Q : Int32 → sdM → Prop} (hx : isRow M o p x) (hf : f < 4) (hq : Q (bI (lvB x f)) M) : w_S_isGiven o M p (zN f) Q := by
  rcases hx with ⟨rfl, rfl⟩ | ⟨n, r, hn, rfl, rfl, hr, hok⟩
  · exact ⟨fun _ => ⟨Or.inl rfl, hq⟩, fun h => (h rfl).elim⟩
  · refine ⟨fun h => (zN_m1 (by omega) h).elim, fun _ => ⟨(zN_in (by omega)).mpr hn, ?_⟩⟩
    rw [zN_nat (by omega), hr.2.1]
    have hb := bitC hok.2.1 hf
    refine ⟨fun h => ?_, fun h => ?_⟩
    · have h9 : lvB (some r) f = false := by simpa [lvB] using hb.mp h
      rw [h9] at hq
      exact ⟨Or.inl rfl, hq⟩
    · have h9 : lvB (some r) f = true := by
        have := mt hb.mpr h
        simpa [lvB] using this
      rw [h9] at hq
      exact ⟨Or.inr rfl, hq⟩
theorem p_valueAt {o f : Nat} {M : sdM} {p : Int32} {x : Option Row} {Q : Int32 → sdM → Prop} (hx : isRow M o p x) (hf : f < 4) (hq : Q (lvV x f) M) : w_S_valueAt o M p (zN f) Q := by
  rcases hx with ⟨rfl, rfl⟩ | ⟨n, r, hn, rfl, rfl, hr, hok⟩
  · exact ⟨fun h => (h rfl).elim, fun _ => hq⟩
  · refine ⟨fun _ => ?_, fun h => (zN_m1 (by omega) h).elim⟩
    rw [show (4 : Int32) = zN 4 from rfl, zN_mul, zN_add]
    refine ⟨(zN_in (by omega)).mpr (by omega), ?_⟩
    rw [zN_nat (by omega), show n * 4 + f = 4 * n + f by omega]
    show Q (M (o + 3) (4 * n + f)) M
    rw [hr.2.2 f hf]
    exact hq
/-- both leaves are alike -/
def sameL (x y : Option Row) (f : Nat) : Bool := lvB x f == lvB y f && lvV x f == lvV y f
theorem p_sameLeaf {o o2 f : Nat} {M : sdM} {p p2 : Int32} {x y : Option Row} {Q : Int32 → sdM → Prop} (hx : isRow M o p x) (hy : isRow M o2 p2 y) (hf : f < 4) (hq : Q (bI (sameL x y f)) M) : w_S_sameLeaf o M p (zN f) o2 p2 Q := by
  refine p_isGiven hx hf (p_isGiven hy hf ⟨fun h => ?_, fun h => ?_⟩)
  · have h1 : sameL x y f = false := by
      have := mt bI_eq.mpr h
      simp [sameL, this]
    rw [h1] at hq
    exact ⟨Or.inl rfl, hq⟩
  · have h1 := bI_eq.mp h
    refine p_valueAt hx hf (p_valueAt hy hf ⟨fun g => ?_, fun g => ?_⟩)
    · have h2 : sameL x y f = false := by simp [sameL, g]
      rw [h2] at hq
      exact ⟨Or.inl rfl, hq⟩
    · have h2 : sameL x y f = true := by simp [sameL, h1, g]
      rw [h2] at hq
      exact ⟨Or.inr rfl, hq⟩
/-- both entries are alike -/
def sameE (x y : Option Row) : Bool := x.isSome == y.isSome && (sameL x y 0 && sameL x y 1 && sameL x y 2 && sameL x y 3)
/-- p holds at f, f + 1, .. (d of them) -/
def allN (p : Nat → Bool) : Nat → Nat → Bool
  | 0, _ => true
  | d + 1, f => p f && allN p d (f + 1)
theorem p_sameEntry_loop {o o2 : Nat} {M : sdM} {p p2 : Int32} {x y : Option Row} {Q : Int32 → sdM → Prop} (hx : isRow M o p x) (hy : isRow M o2 p2 y) : ∀ (d f : Nat), f + d = 4 → Q (bI (allN (sameL x y) d f)) M → h_S_sameEntry_24 o Q (d + 1) M p o2 p2 (zN f) := by
  intro d
  induction d with
  | zero =>
    intro f hf hq
    have : f = 4 := by omega
    subst this
    exact ⟨fun _ => ⟨Or.inr rfl, hq⟩, fun h => (h (by decide)).elim⟩
  | succ d ih =>
    intro f hf hq
    refine ⟨fun h => ?_, fun _ => ?_⟩
    · rw [show (4 : Int32) = zN 4 from rfl, zN_le (by decide) (by omega)] at h; omega
    · refine p_sameLeaf hx hy (by omega) ⟨fun h => ?_, fun h => ?_⟩
      · rw [show (1 : Int32) = zN 1 from rfl, zN_add]
        refine ih (f + 1) (by omega) ?_
        simpa [allN, bI_1.mp h] using hq
      · exact ⟨Or.inl rfl, by rw [allN, bI_0.mp h] at hq; exact hq⟩
theorem sameE_some {r q : Row} : sameE (some r) (some q) = allN (sameL (some r) (some q)) 4 0 := by
  simp [sameE, allN, Bool.and_assoc]
theorem p_sameEntry {o o2 : Nat} {M : sdM} {p p2 : Int32} {x y : Option Row} {Q : Int32 → sdM → Prop} (hx : isRow M o p x) (hy : isRow M o2 p2 y) (hq : Q (bI (sameE x y)) M) : w_S_sameEntry o M p o2 p2 Q := by
  rcases hx with ⟨rfl, rfl⟩ | ⟨n, r, hn, rfl, rfl, hr, hok⟩
  · refine ⟨fun _ => ?_, fun h => (h rfl).elim⟩
    rcases hy with ⟨rfl, rfl⟩ | ⟨n2, r2, hn2, rfl, rfl, hr2, hok2⟩
    · refine ⟨fun h => (h rfl).elim, fun _ => ⟨Or.inr rfl, ?_⟩⟩
      have : sameE none none = true := by decide
      rw [this] at hq; exact hq
    · refine ⟨fun _ => ⟨Or.inl rfl, ?_⟩, fun h => (zN_m1 (by omega) h.symm).elim⟩
      have : sameE none (some r2) = false := rfl
      rw [this] at hq; exact hq
  · refine ⟨fun h => (zN_m1 (by omega) h).elim, fun _ => ⟨fun h2 => ?_, fun h2 => ?_⟩⟩
    · rcases hy with ⟨rfl, rfl⟩ | ⟨n2, r2, hn2, rfl, rfl, hr2, hok2⟩
      · exact (h2 rfl).elim
      · refine ⟨4 + 1, p_sameEntry_loop (Or.inr ⟨n, r, hn, rfl, rfl, hr, hok⟩) (Or.inr ⟨n2, r2, hn2, rfl, rfl, hr2, hok2⟩) 4 0 rfl ?_⟩
        rw [← sameE_some]
        exact hq
    · rcases hy with ⟨-, rfl⟩ | ⟨n2, r2, hn2, rfl, rfl, hr2, hok2⟩
      · refine ⟨fun _ => ⟨Or.inl rfl, ?_⟩, fun h => (zN_m1 (by omega) (h.trans h2)).elim⟩
        have : sameE (some r) none = false := rfl
        rw [this] at hq; exact hq
      · exact (zN_m1 (by omega) h2).elim
theorem RCl.row {M : sdM} {o l i : Nat} {R : List Row} {r : Row} (h : RCl M o l R) (hR : okL R) (hl : l < 4) (hr : R[i]? = some r) : isRow M o (zN (12 * l + i)) (some r) := by
  have hi : i < R.length := (List.getElem?_eq_some_iff.mp hr).1
  exact Or.inr ⟨12 * l + i, r, by have := hR.2.2; omega, rfl, rfl, h.2 i r hr, hR.1 r (List.mem_of_getElem? hr)⟩
/-- the row at an optional place -/
def atR (R : List Row) (i : Option Nat) : Option Row := i.bind (fun i => R[i]?)
theorem RCl.found {M : sdM} {o l : Nat} {R : List Row} {k : Int32} (h : RCl M o l R) (hR : okL R) (hl : l < 4) : isRow M o (rowI (12 * l) (fi R k)) (atR R (fi R k)) := by
  cases hf : fi R k with
  | none => exact Or.inl ⟨rfl, rfl⟩
  | some i =>
    have hi : i < R.length := by
      unfold fi at hf
      exact (List.findIdx?_eq_some_iff_getElem.mp hf).1
    have hr : R[i]? = some R[i] := List.getElem?_eq_getElem hi
    have := h.row hR hl hr
    rw [show atR R (some i) = some R[i] from hr]
    exact this
/-- rows of two lists at the place i are the same -/
def sameAt (R S : List Row) (i : Nat) : Bool := (R[i]?.map (·.1)) == (S[i]?.map (·.1)) && sameE R[i]? S[i]?
def sameLi (R S : List Row) : Bool := R.length == S.length && allN (sameAt R S) R.length 0
theorem endRowI {M : sdM} {o l : Nat} {R : List Row} (h : RCl M o l R) (hl : l < 4) : (zN l * (12 : Int32)) + M (o + 1) (zN l).toNatClampNeg = zN (12 * l + R.length) := by
  rw [zN_nat (by omega), h.1, show (12 : Int32) = zN 12 from rfl, zN_mul, zN_add, Nat.mul_comm]
theorem p_sameList_loop {o o2 l : Nat} {M : sdM} {R S : List Row} {Q : Int32 → sdM → Prop} (hl : l < 4) (h : RCl M o l R) (h2 : RCl M o2 l S) (hR : okL R) (hS : okL S) (he : R.length = S.length) : ∀ (d i : Nat), i + d = R.length → Q (bI (allN (sameAt R S) d i)) M → h_S_sameList_23 o Q (d + 1) M (zN l) o2 (zN (12 * l + i)) := by
  have hlen := hR.2.2
  intro d
  induction d with
  | zero =>
    intro i hi hq
    refine ⟨(zN_in (by omega)).mpr hl, ?_⟩
    rw [endRowI h hl]
    exact ⟨fun _ => ⟨Or.inr rfl, hq⟩, fun hn => (hn ((zN_le (by omega) (by omega)).mpr (by omega))).elim⟩
  | succ d ih =>
    intro i hi hq
    have hir : R[i]? = some R[i] := List.getElem?_eq_getElem (by omega)
    have his : S[i]? = some S[i] := List.getElem?_eq_getElem (by omega)
    have r1 := h.2 i _ hir
    have r2 := h2.2 i _ his
    have k1 := (hR.1 R[i] (List.getElem_mem _)).1
    have k2 := (hS.1 S[i] (List.getElem_mem _)).1
    refine ⟨(zN_in (by omega)).mpr hl, ?_⟩
    rw [endRowI h hl]
    refine ⟨fun hn => ?_, fun _ => ⟨(zN_in (by omega)).mpr (by omega), (zN_in (by omega)).mpr (by omega), ?_⟩⟩
    · rw [zN_le (by omega) (by omega)] at hn; omega
    · rw [zN_nat (by omega), r1.1, r2.1, zN_eq (by omega) (by omega)]
      refine ⟨fun hk => ⟨Or.inl rfl, ?_⟩, fun hk => ?_⟩
      · have : sameAt R S i = false := by simp [sameAt, hir, his, hk]
        rw [allN, this] at hq
        exact hq
      · refine p_sameEntry (h.row hR hl hir) (h2.row hS hl his) ⟨fun g => ?_, fun g => ⟨Or.inl rfl, ?_⟩⟩
        · have : sameAt R S i = true := by simp [sameAt, hir, his, hk, bI_1.mp g]
          rw [allN, this] at hq
          rw [show (1 : Int32) = zN 1 from rfl, zN_add, Nat.add_assoc]
          exact ih (i + 1) (by omega) hq
        · have : sameAt R S i = false := by simp [sameAt, hir, his, bI_0.mp g]
          rw [allN, this] at hq
          exact hq
theorem p_sameList {o o2 l : Nat} {M : sdM} {R S : List Row} {Q : Int32 → sdM → Prop} (hl : l < 4) (h : RCl M o l R) (h2 : RCl M o2 l S) (hR : okL R) (hS : okL S) (hq : Q (bI (sameLi R S)) M) : w_S_sameList o M (zN l) o2 Q := by
  have l1 := hR.2.2
  have l2 := hS.2.2
  refine ⟨(zN_in (by omega)).mpr hl, (zN_in (by omega)).mpr hl, ?_⟩
  rw [zN_nat (by omega), h.1, h2.1, zN_eq (by omega) (by omega)]
  refine ⟨fun he => ⟨R.length + 1, ?_⟩, fun he => ⟨Or.inl rfl, ?_⟩⟩
  · have hs : sameLi R S = allN (sameAt R S) R.length 0 := by simp [sameLi, he]
    rw [hs] at hq
    have := p_sameList_loop (Q := Q) hl h h2 hR hS he R.length 0 (by omega) hq
    rw [show (12 : Int32) = zN 12 from rfl, zN_mul, show l * 12 = 12 * l + 0 by omega]
    exact this
  · have hs : sameLi R S = false := by simp [sameLi, he]
    rw [hs] at hq
    exact hq
def okS (A : ASet) : Prop := ∀ l, l < 4 → okL (A l)
def sameS (A B : ASet) : Bool := allN (fun l => sameLi (A l) (B l)) 4 0
theorem p_sameAs_loop {o o2 : Nat} {M : sdM} {A B : ASet} {Q : Int32 → sdM → Prop} (h : RC M o A) (h2 : RC M o2 B) (hA : okS A) (hB : okS B) : ∀ (d l : Nat), l + d = 4 → Q (bI (allN (fun l => sameLi (A l) (B l)) d l)) M → h_S_sameAs_2 o Q (d + 1) M o2 (zN l) := by
  intro d
  induction d with
  | zero =>
    intro l hl hq
    have : l = 4 := by omega
    subst this
    exact ⟨fun _ => ⟨Or.inr rfl, hq⟩, fun h => (h (by decide)).elim⟩
  | succ d ih =>
    intro l hl hq
    refine ⟨fun h => ?_, fun _ => ?_⟩
    · rw [show (4 : Int32) = zN 4 from rfl, zN_le (by decide) (by omega)] at h; omega
    · refine p_sameList (by omega) (h l (by omega)) (h2 l (by omega)) (hA l (by omega)) (hB l (by omega)) ⟨fun g => ?_, fun g => ⟨Or.inl rfl, ?_⟩⟩
      · rw [show (1 : Int32) = zN 1 from rfl, zN_add]
        refine ih (l + 1) (by omega) ?_
        rw [allN, bI_1.mp g] at hq
        exact hq
      · rw [allN, bI_0.mp g] at hq
        exact hq
theorem p_sameAs {o o2 : Nat} {M : sdM} {A B : ASet} {Q : Int32 → sdM → Prop} (h : RC M o A) (h2 : RC M o2 B) (hA : okS A) (hB : okS B) (hq : Q (bI (sameS A B)) M) : w_S_sameAs o M o2 Q :=
  ⟨4 + 1, p_sameAs_loop h h2 hA hB 4 0 rfl hq⟩
/-- nothing changed but the set o -/
def outS (M M' : sdM) (o : Nat) : Prop := ∀ c, ¬ (o + 1 ≤ c ∧ c ≤ o + 4) → M' c = M c
theorem outS.rf (M : sdM) (o : Nat) : outS M M o := fun _ _ => rfl
theorem outS.tr {M M' M'' : sdM} {o : Nat} (h : outS M M' o) (h' : outS M' M'' o) : outS M M'' o := fun c hc => (h' c hc).trans (h c hc)
theorem outS.RC {M M' : sdM} {o o2 : Nat} {A : ASet} (h : outS M M' o) (hd : o + 5 ≤ o2 ∨ o2 + 5 ≤ o) (hA : RC M o2 A) : RC M' o2 A := by
  intro l hl
  obtain ⟨h1, h2⟩ := hA l hl
  refine ⟨by rw [h _ (by omega)]; exact h1, fun i r hr => ?_⟩
  obtain ⟨g1, g2, g3⟩ := h2 i r hr
  exact ⟨by rw [h _ (by omega)]; exact g1, by rw [h _ (by omega)]; exact g2, fun f hf => by rw [h _ (by omega)]; exact g3 f hf⟩
/-- every row of the set, also one that lies fallow, has bits for four leaves at most -/
def gOK (M : sdM) (o : Nat) : Prop := ∀ j, j < 48 → ∃ b, b < 16 ∧ M (o + 4) j = zN b
theorem outS.gOK {M M' : sdM} {o o2 : Nat} (h : outS M M' o) (hd : o + 5 ≤ o2 ∨ o2 + 5 ≤ o) (hA : gOK M o2) : gOK M' o2 := by
  intro j hj
  obtain ⟨b, hb, e⟩ := hA j hj
  exact ⟨b, hb, by rw [h _ (by omega)]; exact e⟩
theorem p_copyFrom {o o2 : Nat} {M : sdM} {A : ASet} {Q : sdM → Prop} (hd : o + 5 ≤ o2 ∨ o2 + 5 ≤ o) (h : RC M o2 A) (hA : okS A) (hg : gOK M o2) (hq : ∀ M', outS M M' o → RC M' o A → gOK M' o → Q M') : w_S_copyFrom o M o2 Q := by
  refine ⟨by decide, fun M1 e1 => ⟨by decide, fun M2 e2 => ⟨by decide, fun M3 e3 => ⟨by decide, fun M4 e4 => ?_⟩⟩⟩⟩
  have c4 : (4 : Int32).toNatClampNeg = 4 := by decide
  have c0 : (0 : Int32).toNatClampNeg = 0 := by decide
  have c48 : (48 : Int32).toNatClampNeg = 48 := by decide
  have c192 : (192 : Int32).toNatClampNeg = 192 := by decide
  rw [c4, c0] at e1
  rw [c48, c0] at e2 e4
  rw [c192, c0] at e3
  have out : outS M M4 o := by
    intro c hc
    rw [e4, va_up_ne _ _ (by omega), e3, va_up_ne _ _ (by omega), e2, va_up_ne _ _ (by omega), e1, va_up_ne _ _ (by omega)]
  have a1 : ∀ j, j < 4 → M4 (o + 1) j = M (o2 + 1) j := by
    intro j hj
    rw [e4, va_up_ne _ _ (by omega), e3, va_up_ne _ _ (by omega), e2, va_up_ne _ _ (by omega), e1, va_up_self]
    simp [va_cpy, hj]
  have a2 : ∀ j, j < 48 → M4 (o + 2) j = M (o2 + 2) j := by
    intro j hj
    rw [e4, va_up_ne _ _ (by omega), e3, va_up_ne _ _ (by omega), e2, va_up_self]
    have : M1 (o2 + 2) = M (o2 + 2) := by rw [e1, va_up_ne _ _ (by omega)]
    simp [va_cpy, hj, this]
  have a3 : ∀ j, j < 192 → M4 (o + 3) j = M (o2 + 3) j := by
    intro j hj
    rw [e4, va_up_ne _ _ (by omega), e3, va_up_self]
    have : M2 (o2 + 3) = M (o2 + 3) := by rw [e2, va_up_ne _ _ (by omega), e1, va_up_ne _ _ (by omega)]
    simp [va_cpy, hj, this]
  have a4 : ∀ j, j < 48 → M4 (o + 4) j = M (o2 + 4) j := by
    intro j hj
    rw [e4, va_up_self]
    have : M3 (o2 + 4) = M (o2 + 4) := by rw [e3, va_up_ne _ _ (by omega), e2, va_up_ne _ _ (by omega), e1, va_up_ne _ _ (by omega)]
    simp [va_cpy, hj, this]
  refine hq M4 out (fun l hl => ?_) (fun j hj => ?_)
  · obtain ⟨h1, h2⟩ := h l hl
    refine ⟨by rw [a1 l hl]; exact h1, fun i r hr => ?_⟩
    have hi : i < (A l).length := (List.getElem?_eq_some_iff.mp hr).1
    have := (hA l hl).2.2
    obtain ⟨g1, g2, g3⟩ := h2 i r hr
    exact ⟨by rw [a2 _ (by omega)]; exact g1, by rw [a4 _ (by omega)]; exact g2, fun f hf => by rw [a3 _ (by omega)]; exact g3 f hf⟩
  · obtain ⟨b, hb, e⟩ := hg j hj
    exact ⟨b, hb, by rw [a4 _ hj]; exact e⟩
/-- M' is M with the row a of the set o written over the row b -/
def Moved (M M' : sdM) (o a b : Nat)  : Prop := (outS M M' o) ∧ (M' (o + 1) = M (o + 1)) ∧ (∀ r, rowAt M o a r → rowAt M' o b r) ∧ (∀ c r, c ≠ b → rowAt M o c r → rowAt M' o c r) ∧ (gOK M o → gOK M' o)
theorem Moved.out {M M' : sdM} {o a b : Nat}  (h : Moved M M' o a b) : outS M M' o := h.1
theorem Moved.cnt {M M' : sdM} {o a b : Nat}  (h : Moved M M' o a b) : M' (o + 1) = M (o + 1) := h.2.1
theorem Moved.here {M M' : sdM} {o a b : Nat}  (h : Moved M M' o a b) : ∀ r, rowAt M o a r → rowAt M' o b r := h.2.2.1
theorem Moved.oth {M M' : sdM} {o a b : Nat}  (h : Moved M M' o a b) : ∀ c r, c ≠ b → rowAt M o c r → rowAt M' o c r := h.2.2.2.1
theorem Moved.g {M M' : sdM} {o a b : Nat}  (h : Moved M M' o a b) : gOK M o → gOK M' o := h.2.2.2.2
theorem p_moveRow {o a b : Nat} {M : sdM} {Q : sdM → Prop} (ha : a < 48) (hb : b < 48) (hq : ∀ M', Moved M M' o a b → Q M') : w_S_moveRow o M (zN a) (zN b) Q := by
  unfold w_S_moveRow
  rw [show (4 : Int32) = zN 4 from rfl, zN_mul, zN_mul, zN_nat (show a < _ by omega), zN_nat (show b < _ by omega), zN_nat (show a * 4 < _ by omega), zN_nat (show b * 4 < _ by omega), zN_nat (show 4 < _ by omega)]
  refine ⟨(zN_in (by omega)).mpr ha, (zN_in (by omega)).mpr hb, fun M1 e1 => ⟨(zN_in (by omega)).mpr ha, (zN_in (by omega)).mpr hb, fun M2 e2 => ⟨⟨zN_ge (by omega), zN_ge (by omega), zN_ge (by omega), by omega, by omega⟩, fun M3 e3 => hq M3 ?_⟩⟩⟩
  have k1 : M3 (o + 1) = M (o + 1) := by rw [e3, va_up_ne _ _ (by omega), e2, sd_s_o (by omega), e1, sd_s_o (by omega)]
  have k2 : ∀ j, M3 (o + 2) j = if j = b then M (o + 2) a else M (o + 2) j := by
    intro j
    rw [e3, va_up_ne _ _ (by omega), e2, sd_s_o (by omega), e1]
    by_cases hj : j = b
    · subst hj; rw [sd_s_self, if_pos rfl]
    · rw [sd_s_ne hj, if_neg hj]
  have k4 : ∀ j, M3 (o + 4) j = if j = b then M (o + 4) a else M (o + 4) j := by
    intro j
    rw [e3, va_up_ne _ _ (by omega), e2]
    have h1 : M1 (o + 4) = M (o + 4) := by rw [e1, sd_s_o (by omega)]
    by_cases hj : j = b
    · subst hj; rw [sd_s_self, if_pos rfl, h1]
    · rw [sd_s_ne hj, if_neg hj, h1]
  have k3 : ∀ j, M3 (o + 3) j = if b * 4 ≤ j ∧ j < b * 4 + 4 then M (o + 3) (a * 4 + (j - b * 4)) else M (o + 3) j := by
    intro j
    have h1 : M2 (o + 3) = M (o + 3) := by rw [e2, sd_s_o (by omega), e1, sd_s_o (by omega)]
    rw [e3, va_up_self, h1]
    rfl
  refine ⟨fun c hc => ?_, k1, fun r hr => ⟨?_, ?_, fun f hf => ?_⟩, fun c r hc hr => ⟨?_, ?_, fun f hf => ?_⟩, fun hg j hj => ?_⟩
  · rw [e3, va_up_ne _ _ (by omega), e2, sd_s_o (by omega), e1, sd_s_o (by omega)]
  · rw [k2, if_pos rfl]; exact hr.1
  · rw [k4, if_pos rfl]; exact hr.2.1
  · rw [k3, if_pos (by omega), show a * 4 + (4 * b + f - b * 4) = 4 * a + f by omega]; exact hr.2.2 f hf
  · rw [k2, if_neg hc]; exact hr.1
  · rw [k4, if_neg hc]; exact hr.2.1
  · rw [k3, if_neg (by omega)]; exact hr.2.2 f hf
  · rw [k4]
    by_cases hjb : j = b
    · rw [if_pos hjb]; exact hg a ha
    · rw [if_neg hjb]; exact hg j hj
/-- the rows of list l of the set o, as far as g says -/
def rowsAre (M : sdM) (o l : Nat) (g : Nat → Option Row) : Prop := ∀ i r, g i = some r → rowAt M o (12 * l + i) r
/-- the other lists are as they were -/
def othL (M M' : sdM) (o l : Nat) : Prop := ∀ l' S, l' < 4 → l' ≠ l → S.length ≤ 12 → RCl M o l' S → RCl M' o l' S
theorem othL.tr {M M' M'' : sdM} {o l : Nat} (h : othL M M' o l) (h' : othL M' M'' o l) : othL M M'' o l := fun l' S a b c d => h' l' S a b c (h l' S a b c d)
theorem Moved.othL {M M' : sdM} {o l a i : Nat} (h : Moved M M' o a (12 * l + i)) (hi : i < 12) : othL M M' o l := by
  intro l' S hl' hne hS hR
  refine ⟨by rw [h.cnt]; exact hR.1, fun j r hr => h.oth _ r ?_ (hR.2 j r hr)⟩
  have hj : j < S.length := (List.getElem?_eq_some_iff.mp hr).1
  omega
def remF (R : List Row) (i t : Nat) (j : Nat) : Option Row := if j < i then R[j]? else if j < i + t then R[j + 1]? else R[j]?
theorem p_removeEntry_loop {o l i n : Nat} {M0 : sdM} {R : List Row} {Q : sdM → Prop} (hl : l < 4) (hn : R.length = n) (hR : n ≤ 12) (hin : i < n)
    (hq : ∀ M', outS M0 M' o → RCl M' o l (R.eraseIdx i) → othL M0 M' o l → (gOK M0 o → gOK M' o) → Q M') :
    ∀ (d t : Nat) (M : sdM), i + 1 + t + d = n → outS M0 M o → M (o + 1) l = zN n → rowsAre M o l (remF R i t) → othL M0 M o l → (gOK M0 o → gOK M o) → h_S_removeEntry_4 o Q (d + 1) M (zN l) (zN (12 * l + (i + 1 + t))) := by
  intro d
  induction d with
  | zero =>
    intro t M ht hout hc hrow hoth hg
    refine ⟨(zN_in (by omega)).mpr hl, ?_⟩
    rw [zN_nat (by omega), hc, show (12 : Int32) = zN 12 from rfl, zN_mul, zN_add]
    refine ⟨fun _ => ⟨(zN_in (by omega)).mpr hl, (zN_in (by omega)).mpr hl, fun M' e => ?_⟩, fun h => (h ((zN_le (by omega) (by omega)).mpr (by omega))).elim⟩
    rw [hc, show (1 : Int32) = zN 1 from rfl, zN_sub (by omega)] at e
    refine hq M' ?_ ⟨?_, ?_⟩ ?_ ?_
    · exact hout.tr (fun c hcc => by rw [e, sd_s_o (by omega)])
    · rw [e, sd_s_self, List.length_eraseIdx_of_lt (by omega), hn]
    · intro j r hr
      have h1 : remF R i t j = some r := by
        rw [List.getElem?_eraseIdx] at hr
        unfold remF
        by_cases h1 : j < i
        · rw [if_pos h1] at hr ⊢; exact hr
        · rw [if_neg h1] at hr ⊢
          have hj : j + 1 < R.length := (List.getElem?_eq_some_iff.mp hr).1
          rw [if_pos (by omega)]
          exact hr
      obtain ⟨g1, g2, g3⟩ := hrow j r h1
      exact ⟨by rw [e, sd_s_o (by omega)]; exact g1, by rw [e, sd_s_o (by omega)]; exact g2, fun f hf => by rw [e, sd_s_o (by omega)]; exact g3 f hf⟩
    · refine hoth.tr (fun l' S hl' hne hS hRl => ⟨by rw [e, sd_s_ne hne]; exact hRl.1, fun j r hr => ?_⟩)
      obtain ⟨g1, g2, g3⟩ := hRl.2 j r hr
      exact ⟨by rw [e, sd_s_o (by omega)]; exact g1, by rw [e, sd_s_o (by omega)]; exact g2, fun f hf => by rw [e, sd_s_o (by omega)]; exact g3 f hf⟩
    · intro h9 j hj
      obtain ⟨b, hb, e9⟩ := hg h9 j hj
      exact ⟨b, hb, by rw [e, sd_s_o (by omega)]; exact e9⟩
  | succ d ih =>
    intro t M ht hout hc hrow hoth hg
    refine ⟨(zN_in (by omega)).mpr hl, ?_⟩
    rw [zN_nat (by omega), hc, show (12 : Int32) = zN 12 from rfl, zN_mul, zN_add]
    refine ⟨fun h => ?_, fun _ => ?_⟩
    · rw [zN_le (by omega) (by omega)] at h; omega
    · rw [show (1 : Int32) = zN 1 from rfl, zN_sub (by omega), zN_add]
      rw [show 12 * l + (i + 1 + t) - 1 = 12 * l + (i + t) by omega]
      refine p_moveRow (by omega) (by omega) (fun M' hm => ?_)
      rw [show 12 * l + (i + 1 + t) + 1 = 12 * l + (i + 1 + (t + 1)) by omega]
      refine ih (t + 1) M' (by omega) (hout.tr hm.out) (by rw [hm.cnt]; exact hc) (fun j r hj => ?_) (hoth.tr (hm.othL (by omega))) (fun h => hm.g (hg h))
      by_cases hji : j = i + t
      · subst hji
        unfold remF at hj
        rw [if_neg (by omega), if_pos (by omega)] at hj
        refine hm.here r (hrow (i + 1 + t) r ?_)
        unfold remF
        rw [if_neg (by omega), if_neg (by omega), ← hj]
        congr 1
        omega
      · refine hm.oth _ r (by omega) (hrow j r ?_)
        unfold remF at hj ⊢
        by_cases h1 : j < i
        · rw [if_pos h1] at hj ⊢; exact hj
        · rw [if_neg h1] at hj ⊢
          by_cases h2 : j < i + t
          · rw [if_pos (by omega)] at hj; rw [if_pos h2]; exact hj
          · rw [if_neg (by omega)] at hj; rw [if_neg h2]; exact hj
theorem p_removeEntry {o l i : Nat} {M : sdM} {R : List Row} {Q : sdM → Prop} (hl : l < 4) (h : RCl M o l R) (hR : R.length ≤ 12) (hi : i < R.length) (hq : ∀ M', outS M M' o → RCl M' o l (R.eraseIdx i) → othL M M' o l → (gOK M o → gOK M' o) → Q M') : w_S_removeEntry o M (zN l) (zN (12 * l + i)) Q := by
  refine ⟨(R.length - (i + 1)) + 1, ?_⟩
  rw [show (1 : Int32) = zN 1 from rfl, zN_add, show 12 * l + i + 1 = 12 * l + (i + 1 + 0) by omega]
  refine p_removeEntry_loop hl rfl hR hi hq _ 0 M (by omega) (outS.rf _ _) h.1 (fun j r hj => h.2 j r ?_) (fun l' S _ _ _ d => d) (fun h => h)
  unfold remF at hj
  split at hj
  · exact hj
  · split at hj
    · omega
    · exact hj
/-- where a new row of key k goes: behind the last row whose key is not above k -/
def insP (R : List Row) (k : Nat) : Nat → Nat
  | 0 => 0
  | n + 1 => match R[n]? with
    | some r => if r.1 ≤ k then n + 1 else insP R k n
    | none => n + 1
theorem insP_le (R : List Row) (k : Nat) : ∀ n, insP R k n ≤ n
  | 0 => Nat.le_refl _
  | n + 1 => by
    have := insP_le R k n
    unfold insP
    split
    · split <;> omega
    · omega
def newR (k : Nat) : Row := (k, 0, fun _ => 0)
def insL (R : List Row) (k : Nat) : List Row := R.insertIdx (insP R k R.length) (newR k)
def insF (R : List Row) (x : Nat) (j : Nat) : Option Row := if j < x then R[j]? else if j = x then none else R[j - 1]?
/-- what a step within the set o keeps: the memory outside, the counts, the other lists, the fallow rows' bits -/
def Kept (M M' : sdM) (o l : Nat)  : Prop := (outS M M' o) ∧ (M' (o + 1) = M (o + 1)) ∧ (othL M M' o l) ∧ (gOK M o → gOK M' o)
theorem Kept.out {M M' : sdM} {o l : Nat}  (h : Kept M M' o l) : outS M M' o := h.1
theorem Kept.cnt {M M' : sdM} {o l : Nat}  (h : Kept M M' o l) : M' (o + 1) = M (o + 1) := h.2.1
theorem Kept.oth {M M' : sdM} {o l : Nat}  (h : Kept M M' o l) : othL M M' o l := h.2.2.1
theorem Kept.g {M M' : sdM} {o l : Nat}  (h : Kept M M' o l) : gOK M o → gOK M' o := h.2.2.2
theorem Kept.rf (M : sdM) (o l : Nat) : Kept M M o l := ⟨outS.rf _ _, rfl, fun _ _ _ _ _ h => h, fun h => h⟩
theorem Kept.tr {M M' M'' : sdM} {o l : Nat} (h : Kept M M' o l) (h' : Kept M' M'' o l) : Kept M M'' o l := ⟨h.out.tr h'.out, h'.cnt.trans h.cnt, h.oth.tr h'.oth, fun g => h'.g (h.g g)⟩
theorem Moved.kept {M M' : sdM} {o l a i : Nat} (h : Moved M M' o a (12 * l + i)) (hi : i < 12) : Kept M M' o l := ⟨h.out, h.cnt, h.othL hi, h.g⟩
theorem bitDrop : ∀ b, b < 16 → ∀ f, f < 4 → ∃ c, c < 16 ∧ zN b &&& (((1 : Int32) <<< (zN f &&& 31)) ^^^ (-1 : Int32)) = zN c ∧ (∀ g, g < 4 → c.testBit g = (b.testBit g && !(g == f))) := by
  have h : ∀ b, b < 16 → ∀ f, f < 4 → (zN b &&& (((1 : Int32) <<< (zN f &&& 31)) ^^^ (-1 : Int32)) = zN (b &&& (15 - 2 ^ f)) ∧ (b &&& (15 - 2 ^ f)) < 16 ∧ (∀ g, g < 4 → (b &&& (15 - 2 ^ f)).testBit g = (b.testBit g && !(g == f)))) := by decide
  intro b hb f hf
  exact ⟨_, (h b hb f hf).2.1, (h b hb f hf).1, (h b hb f hf).2.2⟩
theorem bitGive : ∀ b, b < 16 → ∀ f, f < 4 → zN b ||| ((1 : Int32) <<< (zN f &&& 31)) = zN (b ||| 2 ^ f) ∧ (b ||| 2 ^ f) < 16 ∧ (∀ g, g < 4 → (b ||| 2 ^ f).testBit g = (b.testBit g || g == f)) := by decide
theorem bits_ext : ∀ b, b < 16 → ∀ c, c < 16 → (∀ g, g < 4 → b.testBit g = c.testBit g) → b = c := by decide
/-- M' is M with one row of the set o changed -/
def RowTo (M M' : sdM) (o p : Nat) (r : Row)  : Prop := (outS M M' o) ∧ (M' (o + 1) = M (o + 1)) ∧ (rowAt M' o p r) ∧ (∀ c r, c ≠ p → rowAt M o c r → rowAt M' o c r) ∧ (gOK M o → gOK M' o)
theorem RowTo.out {M M' : sdM} {o p : Nat} {r : Row}  (h : RowTo M M' o p r) : outS M M' o := h.1
theorem RowTo.cnt {M M' : sdM} {o p : Nat} {r : Row}  (h : RowTo M M' o p r) : M' (o + 1) = M (o + 1) := h.2.1
theorem RowTo.here {M M' : sdM} {o p : Nat} {r : Row}  (h : RowTo M M' o p r) : rowAt M' o p r := h.2.2.1
theorem RowTo.oth {M M' : sdM} {o p : Nat} {r : Row}  (h : RowTo M M' o p r) : ∀ c r, c ≠ p → rowAt M o c r → rowAt M' o c r := h.2.2.2.1
theorem RowTo.g {M M' : sdM} {o p : Nat} {r : Row}  (h : RowTo M M' o p r) : gOK M o → gOK M' o := h.2.2.2.2
theorem RowTo.kept {M M' : sdM} {o l i : Nat} {r : Row} (h : RowTo M M' o (12 * l + i) r) (hi : i < 12) : Kept M M' o l := by
  refine ⟨h.out, h.cnt, fun l' S hl' hne hS hR => ⟨by rw [h.cnt]; exact hR.1, fun j q hq => h.oth _ q ?_ (hR.2 j q hq)⟩, h.g⟩
  have hj : j < S.length := (List.getElem?_eq_some_iff.mp hq).1
  omega
def dropR (r : Row) (c f : Nat) : Row := (r.1, c, fun g => if g = f then 0 else r.2.2 g)
theorem p_drop {o p f : Nat} {M : sdM} {r : Row} {Q : sdM → Prop} (hp : p < 48) (hf : f < 4) (h : rowAt M o p r) (hb : r.2.1 < 16) (hq : ∀ M' c, c < 16 → (∀ g, g < 4 → c.testBit g = (r.2.1.testBit g && !(g == f))) → RowTo M M' o p (dropR r c f) → Q M') : w_S_drop o M (zN p) (zN f) Q := by
  obtain ⟨c, hc, e0, hbits⟩ := bitDrop r.2.1 hb f hf
  refine ⟨(zN_in (by omega)).mpr hp, (zN_in (by omega)).mpr hp, fun M1 e1 => ?_⟩
  rw [zN_nat (by omega), h.2.1, e0] at e1
  rw [show (4 : Int32) = zN 4 from rfl, zN_mul, zN_add]
  refine ⟨(zN_in (by omega)).mpr (by omega), fun M2 e2 => ?_⟩
  rw [zN_nat (by omega), show p * 4 + f = 4 * p + f by omega] at e2
  refine hq M2 c hc hbits ⟨fun c hc => by rw [e2, sd_s_o (by omega), e1, sd_s_o (by omega)], by rw [e2, sd_s_o (by omega), e1, sd_s_o (by omega)], ⟨?_, ?_, fun g hg => ?_⟩, fun c9 q hne hr => ⟨?_, ?_, fun g hg => ?_⟩, fun hg j hj => ?_⟩
  · rw [e2, sd_s_o (by omega), e1, sd_s_o (by omega)]; exact h.1
  · rw [e2, sd_s_o (by omega), e1, sd_s_self]; rfl
  · show M2 (o + 3) (4 * p + g) = if g = f then 0 else r.2.2 g
    by_cases hgf : g = f
    · subst hgf; rw [e2, sd_s_self, if_pos rfl]
    · rw [e2, sd_s_ne (by omega), if_neg hgf, e1, sd_s_o (by omega)]; exact h.2.2 g hg
  · rw [e2, sd_s_o (by omega), e1, sd_s_o (by omega)]; exact hr.1
  · rw [e2, sd_s_o (by omega), e1, sd_s_ne hne]; exact hr.2.1
  · rw [e2, sd_s_ne (by omega), e1, sd_s_o (by omega)]; exact hr.2.2 g hg
  · by_cases hjp : j = p
    · subst hjp; exact ⟨c, hc, by rw [e2, sd_s_o (by omega), e1, sd_s_self]⟩
    · obtain ⟨b, hb9, e9⟩ := hg j hj
      exact ⟨b, hb9, by rw [e2, sd_s_o (by omega), e1, sd_s_ne hjp]; exact e9⟩
def giveR (r : Row) (f : Nat) (v : Int32) : Row := (r.1, r.2.1 ||| 2 ^ f, fun g => if g = f then v else r.2.2 g)
theorem p_give {o p f : Nat} {M : sdM} {r : Row} {v : Int32} {Q : sdM → Prop} (hp : p < 48) (hf : f < 4) (h : rowAt M o p r) (hb : r.2.1 < 16) (hq : ∀ M', RowTo M M' o p (giveR r f v) → Q M') : w_S_give o M (zN p) (zN f) v Q := by
  obtain ⟨e0, hc, hbits⟩ := bitGive r.2.1 hb f hf
  refine ⟨(zN_in (by omega)).mpr hp, (zN_in (by omega)).mpr hp, fun M1 e1 => ?_⟩
  rw [zN_nat (by omega), h.2.1, e0] at e1
  rw [show (4 : Int32) = zN 4 from rfl, zN_mul, zN_add]
  refine ⟨(zN_in (by omega)).mpr (by omega), fun M2 e2 => ?_⟩
  rw [zN_nat (by omega), show p * 4 + f = 4 * p + f by omega] at e2
  refine hq M2 ⟨fun c hc => by rw [e2, sd_s_o (by omega), e1, sd_s_o (by omega)], by rw [e2, sd_s_o (by omega), e1, sd_s_o (by omega)], ⟨?_, ?_, fun g hg => ?_⟩, fun c9 q hne hr => ⟨?_, ?_, fun g hg => ?_⟩, fun hg j hj => ?_⟩
  · rw [e2, sd_s_o (by omega), e1, sd_s_o (by omega)]; exact h.1
  · rw [e2, sd_s_o (by omega), e1, sd_s_self]; rfl
  · show M2 (o + 3) (4 * p + g) = if g = f then v else r.2.2 g
    by_cases hgf : g = f
    · subst hgf; rw [e2, sd_s_self, if_pos rfl]
    · rw [e2, sd_s_ne (by omega), if_neg hgf, e1, sd_s_o (by omega)]; exact h.2.2 g hg
  · rw [e2, sd_s_o (by omega), e1, sd_s_o (by omega)]; exact hr.1
  · rw [e2, sd_s_o (by omega), e1, sd_s_ne hne]; exact hr.2.1
  · rw [e2, sd_s_ne (by omega), e1, sd_s_o (by omega)]; exact hr.2.2 g hg
  · by_cases hjp : j = p
    · subst hjp; exact ⟨_, hc, by rw [e2, sd_s_o (by omega), e1, sd_s_self]⟩
    · obtain ⟨b, hb9, e9⟩ := hg j hj
      exact ⟨b, hb9, by rw [e2, sd_s_o (by omega), e1, sd_s_ne hjp]; exact e9⟩
theorem p_addDrops {o p k : Nat} {M0 : sdM} {Q : Int32 → sdM → Prop} (hp : p < 48) (hq : ∀ M', RowTo M0 M' o p (newR k) → Q (zN p) M') :
    ∀ (d f : Nat) (M : sdM) (r : Row), f + d = 4 → r.1 = k → r.2.1 < 16 → (∀ g, g < f → r.2.1.testBit g = false ∧ r.2.2 g = 0) → RowTo M0 M o p r → h_S_addEntry_61 o Q (d + 1) M (zN p) (zN f) := by
  intro d
  induction d with
  | zero =>
    intro f M r hf hk hb hlow h
    have : f = 4 := by omega
    subst this
    refine ⟨fun _ => hq M ⟨h.out, h.cnt, ⟨?_, ?_, fun g hg => ?_⟩, h.oth, h.g⟩, fun h9 => (h9 (by decide)).elim⟩
    · rw [← hk]; exact h.here.1
    · have : r.2.1 = 0 := bits_ext _ hb 0 (by omega) (fun g hg => by rw [(hlow g hg).1]; simp)
      rw [h.here.2.1, this]; rfl
    · rw [h.here.2.2 g hg]; exact (hlow g hg).2
  | succ d ih =>
    intro f M r hf hk hb hlow h
    refine ⟨fun h9 => ?_, fun _ => ?_⟩
    · rw [show (4 : Int32) = zN 4 from rfl, zN_le (by decide) (by omega)] at h9; omega
    · refine p_drop hp (by omega) h.here hb (fun M' c hc hbits hm => ?_)
      rw [show (1 : Int32) = zN 1 from rfl, zN_add]
      refine ih (f + 1) M' (dropR r c f) (by omega) hk hc (fun g hg => ?_) ⟨h.out.tr hm.out, hm.cnt.trans h.cnt, hm.here, fun c9 q h1 h2 => hm.oth c9 q h1 (h.oth c9 q h1 h2), fun h9 => hm.g (h.g h9)⟩
      refine ⟨?_, ?_⟩
      · show c.testBit g = false
        rw [hbits g (by omega)]
        by_cases hgf : g = f
        · subst hgf; simp
        · rw [(hlow g (by omega)).1]; rfl
      · show (if g = f then (0 : Int32) else r.2.2 g) = 0
        by_cases hgf : g = f
        · rw [if_pos hgf]
        · rw [if_neg hgf]; exact (hlow g (by omega)).2
theorem p_addTail {o l x n k : Nat} {M0 M : sdM} {R : List Row} {Q : Int32 → sdM → Prop} (hl : l < 4) (hn : R.length = n) (hR : n < 12) (hx : x ≤ n) (hc : M (o + 1) l = zN n) (hK : Kept M0 M o l) (hg : gOK M0 o) (hrow : rowsAre M o l (insF R x))
    (hq : ∀ M', outS M0 M' o → RCl M' o l (R.insertIdx x (newR k)) → othL M0 M' o l → gOK M' o → Q (zN (12 * l + x)) M') : k_S_addEntry_41 o Q M (zN l) (zN k) (zN (12 * l + x)) := by
  refine ⟨(zN_in (by omega)).mpr hl, (zN_in (by omega)).mpr hl, fun M1 e1 => ⟨(zN_in (by omega)).mpr (by omega), fun M2 e2 => ⟨4 + 1, ?_⟩⟩⟩
  rw [zN_nat (by omega), hc, show (1 : Int32) = zN 1 from rfl, zN_add] at e1
  rw [zN_nat (by omega)] at e2
  obtain ⟨b, hb, eb⟩ := hK.g hg (12 * l + x) (by omega)
  have u1 : M2 (o + 1) = sd_s M (o + 1) l (zN (n + 1)) (o + 1) := by rw [e2, sd_s_o (by omega), e1]
  have u3 : M2 (o + 3) = M (o + 3) := by rw [e2, sd_s_o (by omega), e1, sd_s_o (by omega)]
  have u4 : M2 (o + 4) = M (o + 4) := by rw [e2, sd_s_o (by omega), e1, sd_s_o (by omega)]
  have u2 : ∀ j, j ≠ 12 * l + x → M2 (o + 2) j = M (o + 2) j := fun j hj => by rw [e2, sd_s_ne hj, e1, sd_s_o (by omega)]
  have uo : outS M M2 o := fun c hcc => by rw [e2, sd_s_o (by omega), e1, sd_s_o (by omega)]
  have u5 : ∀ c r, c ≠ 12 * l + x → rowAt M o c r → rowAt M2 o c r := fun c r hne hr => ⟨by rw [u2 c hne]; exact hr.1, by rw [u4]; exact hr.2.1, fun f hf => by rw [u3]; exact hr.2.2 f hf⟩
  have start : RowTo M2 M2 o (12 * l + x) (k, b, fun g => M (o + 3) (4 * (12 * l + x) + g)) := ⟨outS.rf _ _, rfl, ⟨by rw [e2, sd_s_self], by rw [u4]; exact eb, fun f hf => by rw [u3]⟩, fun _ _ _ h => h, fun h => h⟩
  refine p_addDrops (k := k) (M0 := M2) (by omega) (fun M3 h3 => ?_) 4 0 M2 _ rfl rfl hb (fun g hg => by omega) start
  have key : ∀ c r, c ≠ 12 * l + x → rowAt M o c r → rowAt M3 o c r := fun c r hne hr => h3.oth c r hne (u5 c r hne hr)
  refine hq M3 ((hK.out.tr uo).tr h3.out) ⟨?_, ?_⟩ (hK.oth.tr ?_) ?_
  · rw [h3.cnt, u1, sd_s_self, List.length_insertIdx_of_le_length (by omega), hn]
  · intro j r hj
    rw [List.getElem?_insertIdx] at hj
    by_cases h1 : j < x
    · rw [if_pos h1] at hj
      refine key _ r (by omega) (hrow j r ?_)
      unfold insF; rw [if_pos h1]; exact hj
    · rw [if_neg h1] at hj
      by_cases h2 : j = x
      · subst h2
        rw [if_pos rfl] at hj
        have : r = newR k := by
          split at hj
          · exact (Option.some.inj hj).symm
          · cases hj
        rw [this]
        exact h3.here
      · rw [if_neg h2] at hj
        refine key _ r (by omega) (hrow j r ?_)
        unfold insF; rw [if_neg h1, if_neg h2]; exact hj
  · intro l' S hl' hne hS hRl
    refine ⟨by rw [h3.cnt, u1, sd_s_ne hne]; exact hRl.1, fun j r hj => key _ r ?_ (hRl.2 j r hj)⟩
    have hjl : j < S.length := (List.getElem?_eq_some_iff.mp hj).1
    omega
  · exact h3.g (fun j hj => by rw [u4]; exact hK.g hg j hj)
theorem p_addEntry_loop {o l n k : Nat} {M0 : sdM} {R : List Row} {Q : Int32 → sdM → Prop} (hl : l < 4) (hok : okL R) (hn : R.length = n) (hR : n < 12) (hk : k ≤ 100) (hg : gOK M0 o)
    (hq : ∀ M', outS M0 M' o → RCl M' o l (insL R k) → othL M0 M' o l → gOK M' o → Q (zN (12 * l + insP R k n)) M') :
    ∀ (x : Nat) (M : sdM), x ≤ n → insP R k n = insP R k x → M (o + 1) l = zN n → Kept M0 M o l → rowsAre M o l (insF R x) → h_S_addEntry_6 o Q (x + 1) M (zN l) (zN k) (zN (12 * l + x)) := by
  intro x
  induction x with
  | zero =>
    intro M hx hp hc hK hrow
    show (_ → _) ∧ _
    rw [show (12 : Int32) = zN 12 from rfl, zN_mul]
    refine ⟨fun _ => ?_, fun h => (h ((zN_le (by omega) (by omega)).mpr (by omega))).elim⟩
    refine p_addTail hl hn hR (by omega) hc hK hg hrow (fun M' a1 a2 a3 a4 => ?_)
    have h0 : insP R k n = 0 := hp
    have := hq M' a1 (by unfold insL; rw [hn, h0]; exact a2) a3 a4
    rw [h0] at this
    exact this
  | succ x ih =>
    intro M hx hp hc hK hrow
    have hxl : x < R.length := by omega
    have hr : R[x]? = some R[x] := List.getElem?_eq_getElem hxl
    have hkr := (hok.1 R[x] (List.getElem_mem _)).1
    have hrx := hrow x R[x] (by unfold insF; rw [if_pos (by omega)]; exact hr)
    show (_ → _) ∧ _
    rw [show (12 : Int32) = zN 12 from rfl, zN_mul]
    refine ⟨fun h => ?_, fun _ => ?_⟩
    · rw [zN_le (by omega) (by omega)] at h; omega
    · rw [show (1 : Int32) = zN 1 from rfl, zN_sub (by omega), show 12 * l + (x + 1) - 1 = 12 * l + x by omega]
      refine ⟨(zN_in (by omega)).mpr (by omega), ?_⟩
      rw [zN_nat (by omega), hrx.1, zN_le (by omega) (by omega)]
      refine ⟨fun hle => ?_, fun hgt => ?_⟩
      · refine p_addTail hl hn hR (by omega) hc hK hg hrow (fun M' a1 a2 a3 a4 => ?_)
        have h0 : insP R k n = x + 1 := by rw [hp]; unfold insP; rw [hr]; simp [hle]
        have := hq M' a1 (by unfold insL; rw [hn, h0]; exact a2) a3 a4
        rw [h0] at this
        exact this
      · refine p_moveRow (by omega) (by omega) (fun M' hm => ?_)
        have e9 : zN (12 * l + (x + 1)) + -zN 1 = zN (12 * l + x) := by
          rw [← Int32.sub_eq_add_neg, zN_sub (by omega)]
          rfl
        rw [e9]
        refine ih M' (by omega) ?_ (by rw [hm.cnt]; exact hc) (hK.tr (hm.kept (by omega))) (fun j r hj => ?_)
        · rw [hp]
          show insP R k (x + 1) = _
          unfold insP
          rw [hr]
          simp only [hgt, if_false]
          cases x <;> rfl
        · by_cases h1 : j = x + 1
          · subst h1
            unfold insF at hj
            rw [if_neg (by omega), if_neg (by omega), show x + 1 - 1 = x by omega, hr] at hj
            cases hj
            exact hm.here _ hrx
          · refine hm.oth _ r (by omega) (hrow j r ?_)
            unfold insF at hj ⊢
            by_cases h2 : j < x
            · rw [if_pos h2] at hj; rw [if_pos (by omega)]; exact hj
            · rw [if_neg h2] at hj
              by_cases h3 : j = x
              · rw [if_pos h3] at hj; cases hj
              · rw [if_neg h3] at hj; rw [if_neg (by omega), if_neg h1]; exact hj
theorem p_addEntry {o l k : Nat} {M : sdM} {R : List Row} {Q : Int32 → sdM → Prop} (hl : l < 4) (h : RCl M o l R) (hok : okL R) (hR : R.length < 12) (hk : k ≤ 100) (hg : gOK M o) (hq : ∀ M', outS M M' o → RCl M' o l (insL R k) → othL M M' o l → gOK M' o → Q (zN (12 * l + insP R k R.length)) M') : w_S_addEntry o M (zN l) (zN k) Q := by
  refine ⟨(zN_in (by omega)).mpr hl, R.length + 1, ?_⟩
  rw [endRowI h hl]
  refine p_addEntry_loop hl hok rfl hR hk hg hq R.length M (by omega) rfl h.1 (Kept.rf _ _ _) (fun j r hj => h.2 j r ?_)
  unfold insF at hj
  split at hj
  · exact hj
  · split at hj
    · cases hj
    · have := (List.getElem?_eq_some_iff.mp hj).1
      omega
/-- the least key above k, or 101 (rows in order) -/
def kaft (R : List Row) (k : Int) : Nat := match R.find? (fun r => decide (k < (r.1 : Int))) with
  | some r => r.1
  | none => 101
/-- a key or -1, as an int -/
def zK (k : Int) : Int32 := if k < 0 then -1 else zN k.toNat
theorem zK_le {k : Int} {a : Nat} (hk : k < 2147483648) (h1 : -1 ≤ k) (ha : a < 2147483648) : zN a ≤ zK k ↔ (a : Int) ≤ k := by
  unfold zK
  split
  · rw [Int32.le_iff_toInt_le, zN_int ha, show (-1 : Int32).toInt = -1 from rfl]; omega
  · rw [zN_le ha (by omega)]; omega
theorem p_keyAfter_loop {o l : Nat} {M : sdM} {R : List Row} {k : Int} {Q : Int32 → sdM → Prop} (hl : l < 4) (h : RCl M o l R) (hok : okL R) (hk : -1 ≤ k ∧ k ≤ 101) : ∀ (d i : Nat), i + d = R.length → Q (zN (kaft (R.drop i) k)) M → h_S_keyAfter_6 o Q (d + 1) M (zN l) (zK k) (zN (12 * l + i)) := by
  have hlen := hok.2.2
  intro d
  induction d with
  | zero =>
    intro i hi hq
    refine ⟨(zN_in (by omega)).mpr hl, ?_⟩
    rw [endRowI h hl]
    refine ⟨fun _ => ?_, fun hn => (hn ((zN_le (by omega) (by omega)).mpr (by omega))).elim⟩
    rw [List.drop_of_length_le (by omega)] at hq
    exact hq
  | succ d ih =>
    intro i hi hq
    have hil : i < R.length := by omega
    have hr : R[i]? = some R[i] := List.getElem?_eq_getElem hil
    have hrow := h.2 i _ hr
    have hkr := (hok.1 R[i] (List.getElem_mem _)).1
    refine ⟨(zN_in (by omega)).mpr hl, ?_⟩
    rw [endRowI h hl]
    refine ⟨fun hn => ?_, fun _ => ⟨(zN_in (by omega)).mpr (by omega), ?_⟩⟩
    · rw [zN_le (by omega) (by omega)] at hn; omega
    · rw [List.drop_eq_getElem_cons hil] at hq
      rw [zN_nat (by omega), hrow.1, zK_le (by omega) hk.1 (by omega)]
      refine ⟨fun hle => ?_, fun hgt => ⟨(zN_in (by omega)).mpr (by omega), ?_⟩⟩
      · rw [show (1 : Int32) = zN 1 from rfl, zN_add, Nat.add_assoc]
        refine ih (i + 1) (by omega) ?_
        have : kaft (R[i] :: R.drop (i + 1)) k = kaft (R.drop (i + 1)) k := by
          unfold kaft
          rw [List.find?_cons_of_neg (by simp; omega)]
        rw [this] at hq
        exact hq
      · have : kaft (R[i] :: R.drop (i + 1)) k = R[i].1 := by
          unfold kaft
          rw [List.find?_cons_of_pos (by simp; omega)]
        rw [this] at hq
        exact hq
theorem p_keyAfter {o l : Nat} {M : sdM} {R : List Row} {k : Int} {Q : Int32 → sdM → Prop} (hl : l < 4) (h : RCl M o l R) (hok : okL R) (hk : -1 ≤ k ∧ k ≤ 101) (hq : Q (zN (kaft R k)) M) : w_S_keyAfter o M (zN l) (zK k) Q := by
  refine ⟨R.length + 1, ?_⟩
  rw [show (12 : Int32) = zN 12 from rfl, zN_mul, show l * 12 = 12 * l + 0 by omega]
  exact p_keyAfter_loop hl h hok hk R.length 0 (by omega) (by rw [List.drop_zero]; exact hq)
theorem kaft_le {R : List Row} (hok : okL R) (k : Int) : kaft R k ≤ 101 := by
  unfold kaft
  split
  · rename_i r hr
    have := (hok.1 r (List.mem_of_find?_eq_some hr)).1
    omega
  · exact Nat.le_refl _
def kaft2 (R S : List Row) (k : Int) : Nat := Nat.min (kaft R k) (kaft S k)
theorem p_keyAfterInEither {o o2 l : Nat} {M : sdM} {R S : List Row} {k : Int} {Q : Int32 → sdM → Prop} (hl : l < 4) (h : RCl M o l R) (h2 : RCl M o2 l S) (hok : okL R) (hok2 : okL S) (hk : -1 ≤ k ∧ k ≤ 101) (hq : Q (zN (kaft2 R S k)) M) : w_S_keyAfterInEither o M o2 (zN l) (zK k) Q := by
  have b1 := kaft_le hok k
  have b2 := kaft_le hok2 k
  refine p_keyAfter hl h hok hk (p_keyAfter hl h2 hok2 hk ?_)
  refine ⟨fun hlt => ?_, fun hlt => ?_⟩
  · rw [zN_lt (by omega) (by omega)] at hlt
    show Q (zN (kaft S k)) M
    have : kaft2 R S k = kaft S k := Nat.min_eq_right (by omega)
    rw [← this]; exact hq
  · rw [zN_lt (by omega) (by omega)] at hlt
    show Q (zN (kaft R k)) M
    have : kaft2 R S k = kaft R k := Nat.min_eq_left (by omega)
    rw [← this]; exact hq
def countS (A : ASet) : Nat := (A 0).length + (A 1).length + (A 2).length + (A 3).length
theorem p_entryCount {o : Nat} {M : sdM} {A : ASet} {Q : Int32 → sdM → Prop} (h : RC M o A) (hq : Q (zN (countS A)) M) : w_S_entryCount o M Q := by
  refine ⟨5, ?_⟩
  have c : ∀ l, l < 4 → M (o + 1) l = zN (A l).length := fun l hl => (h l hl).1
  refine ⟨fun h => absurd h (by decide), fun _ => ⟨(zN_in (a := 0) (by omega)).mpr (by omega), ?_⟩⟩
  refine ⟨fun h => absurd h (by decide), fun _ => ⟨(zN_in (a := 1) (by omega)).mpr (by omega), ?_⟩⟩
  refine ⟨fun h => absurd h (by decide), fun _ => ⟨(zN_in (a := 2) (by omega)).mpr (by omega), ?_⟩⟩
  refine ⟨fun h => absurd h (by decide), fun _ => ⟨(zN_in (a := 3) (by omega)).mpr (by omega), ?_⟩⟩
  refine ⟨fun _ => ?_, fun h => absurd (by decide) h⟩
  rw [show (0 : Int32).toNatClampNeg = 0 from rfl, show ((0 : Int32) + 1).toNatClampNeg = 1 from rfl, show ((0 : Int32) + 1 + 1).toNatClampNeg = 2 from rfl, show ((0 : Int32) + 1 + 1 + 1).toNatClampNeg = 3 from rfl, c 0 (by omega), c 1 (by omega), c 2 (by omega), c 3 (by omega), show (0 : Int32) = zN 0 from rfl, zN_add, zN_add, zN_add, zN_add, Nat.zero_add]
  exact hq
/-- a leaf is nothing, by a row and the standard of the leaf's cell -/
theorem p_isNothing {o f c : Nat} {M : sdM} {p : Int32} {x : Option Row} {Q : Int32 → sdM → Prop} {hs : Bool} (hx : isRow M o p x) (hf : f < 4) (hc : M c 5 = bI hs) (hq : Q (bI (!lvB x f && !hs)) M) : w_S_isNothing o M p (zN f) c Q := by
  refine p_isGiven hx hf ⟨fun h => ?_, fun h => ?_⟩
  · rw [bI_1.mp h] at hq
    exact ⟨Or.inl rfl, hq⟩
  · rw [bI_0.mp h] at hq
    rw [hc]
    refine ⟨fun g => ?_, fun g => ?_⟩
    · rw [bI_1.mp g] at hq; exact ⟨Or.inl rfl, hq⟩
    · rw [bI_0.mp g] at hq; exact ⟨Or.inr rfl, hq⟩
theorem p_whatIs {o f c : Nat} {M : sdM} {p : Int32} {x : Option Row} {Q : Int32 → sdM → Prop} {sv : Int32} (hx : isRow M o p x) (hf : f < 4) (hc : M c 6 = sv) (hq : Q (if lvB x f then lvV x f else sv) M) : w_S_whatIs o M p (zN f) c Q := by
  refine p_isGiven hx hf ⟨fun h => ?_, fun h => ?_⟩
  · rw [bI_0.mp h] at hq
    show Q (M c 6) M
    rw [hc]; exact hq
  · rw [bI_1.mp h] at hq
    exact p_valueAt hx hf hq
theorem p_removeAll {o : Nat} {M : sdM} {Q : sdM → Prop} (hq : ∀ M', outS M M' o → RC M' o (fun _ => []) → (gOK M o → gOK M' o) → Q M') : w_S_removeAll o M Q := by
  refine ⟨5, ?_⟩
  refine ⟨fun h => absurd h (by decide), fun _ => ⟨(zN_in (a := 0) (by omega)).mpr (by omega), fun M1 e1 => ?_⟩⟩
  refine ⟨fun h => absurd h (by decide), fun _ => ⟨(zN_in (a := 1) (by omega)).mpr (by omega), fun M2 e2 => ?_⟩⟩
  refine ⟨fun h => absurd h (by decide), fun _ => ⟨(zN_in (a := 2) (by omega)).mpr (by omega), fun M3 e3 => ?_⟩⟩
  refine ⟨fun h => absurd h (by decide), fun _ => ⟨(zN_in (a := 3) (by omega)).mpr (by omega), fun M4 e4 => ?_⟩⟩
  refine ⟨fun _ => ?_, fun h => absurd (by decide) h⟩
  rw [show (0 : Int32).toNatClampNeg = 0 from rfl] at e1
  rw [show ((0 : Int32) + 1).toNatClampNeg = 1 from rfl] at e2
  rw [show ((0 : Int32) + 1 + 1).toNatClampNeg = 2 from rfl] at e3
  rw [show ((0 : Int32) + 1 + 1 + 1).toNatClampNeg = 3 from rfl] at e4
  have ho : ∀ c, c ≠ o + 1 → M4 c = M c := fun c hc => by rw [e4, sd_s_o hc, e3, sd_s_o hc, e2, sd_s_o hc, e1, sd_s_o hc]
  refine hq M4 (fun c hc => ho c (by omega)) (fun l hl => ⟨?_, fun i r hr => by simp at hr⟩) (fun hg j hj => by rw [ho _ (by omega)]; exact hg j hj)
  have : l = 0 ∨ l = 1 ∨ l = 2 ∨ l = 3 := by omega
  rcases this with rfl | rfl | rfl | rfl
  · rw [e4, sd_s_ne (by omega), e3, sd_s_ne (by omega), e2, sd_s_ne (by omega), e1, sd_s_self]; rfl
  · rw [e4, sd_s_ne (by omega), e3, sd_s_ne (by omega), e2, sd_s_self]; rfl
  · rw [e4, sd_s_ne (by omega), e3, sd_s_self]; rfl
  · rw [e4, sd_s_self]; rfl
/-- a leaf of another row is copied into a row -/
def copyR (r : Row) (f : Nat) (y : Option Row) : Row := if lvB y f then giveR r f (lvV y f) else r
theorem p_copyLeaf {o o2 p f : Nat} {M : sdM} {r : Row} {p2 : Int32} {y : Option Row} {Q : sdM → Prop} (hp : p < 48) (hf : f < 4) (h : rowAt M o p r) (hb : r.2.1 < 16) (hy : isRow M o2 p2 y) (hq : ∀ M', RowTo M M' o p (copyR r f y) → Q M') : w_S_copyLeaf o M (zN p) (zN f) o2 p2 Q := by
  refine p_isGiven hy hf ⟨fun g => ?_, fun g => ?_⟩
  · refine hq M ?_
    unfold copyR
    rw [bI_0.mp g, if_neg (by decide)]
    exact ⟨outS.rf _ _, rfl, h, fun _ _ _ h => h, fun h => h⟩
  · refine p_valueAt hy hf (p_give hp hf h hb (fun M' hm => hq M' ?_))
    unfold copyR
    rw [bI_1.mp g, if_pos rfl]
    exact hm
/-- p is the number of the row x in the model's arrays, or -1 where x is none -/
def isRowM (M : sdM) (p : Int32) (x : Option Row) : Prop := (p = -1 ∧ x = none) ∨ ∃ n r, n < 816 ∧ p = zN n ∧ x = some r ∧ rowAtM M n r ∧ okR r
theorem m_isSet {f : Nat} {M : sdM} {p : Int32} {x : Option Row} {Q : Int32 → sdM → Prop} (hx : isRowM M p x) (hf : f < 4) (hq : Q (bI (lvB x f)) M) : w_O_isSet M p (zN f) Q := by
  rcases hx with ⟨rfl, rfl⟩ | ⟨n, r, hn, rfl, rfl, hr, hok⟩
  · exact ⟨fun _ => ⟨Or.inl rfl, hq⟩, fun h => (h (by decide)).elim⟩
  · refine ⟨fun h => (zN_ge (by omega) h).elim, fun _ => ⟨(zN_in (by omega)).mpr hn, ?_⟩⟩
    rw [zN_nat (by omega), hr.2.1]
    have hb := bitM hok.2.1 hf
    refine ⟨fun h => ?_, fun h => ?_⟩
    · have h9 : lvB (some r) f = false := by
        have := mt hb.mpr h
        simpa [lvB] using this
      rw [h9] at hq
      exact ⟨Or.inl rfl, hq⟩
    · have h9 : lvB (some r) f = true := hb.mp h
      rw [h9] at hq
      exact ⟨Or.inr rfl, hq⟩
theorem lvV_0 {x : Option Row} {f : Nat} (hx : ∀ r, x = some r → okR r) (h : lvB x f = false) : lvV x f = 0 := by
  cases x with
  | none => rfl
  | some r => exact (hx r rfl).2.2 f (fun q => by rw [show lvB (some r) f = r.2.1.testBit f from rfl] at h; rw [h] at q; exact absurd q.2 (by decide))
theorem isRowM.ok {M : sdM} {p : Int32} {x : Option Row} (h : isRowM M p x) : ∀ r, x = some r → okR r := by
  rcases h with ⟨rfl, rfl⟩ | ⟨n, r, hn, rfl, rfl, hr, hok⟩
  · intro r h; cases h
  · intro r' h; cases h; exact hok
theorem isRow.ok {M : sdM} {o : Nat} {p : Int32} {x : Option Row} (h : isRow M o p x) : ∀ r, x = some r → okR r := by
  rcases h with ⟨rfl, rfl⟩ | ⟨n, r, hn, rfl, rfl, hr, hok⟩
  · intro r h; cases h
  · intro r' h; cases h; exact hok
theorem m_value {f : Nat} {M : sdM} {p : Int32} {x : Option Row} (hx : isRowM M p x) (hf : f < 4) (h : lvB x f = true) : vp_in (((4 : Int32) * p) + zN f) 3264 ∧ M 132 (((4 : Int32) * p) + zN f).toNatClampNeg = lvV x f := by
  rcases hx with ⟨rfl, rfl⟩ | ⟨n, r, hn, rfl, rfl, hr, hok⟩
  · cases h
  · rw [show (4 : Int32) = zN 4 from rfl, zN_mul, zN_add, zN_nat (by omega)]
    exact ⟨(zN_in (by omega)).mpr (by omega), hr.2.2 f hf h⟩
theorem m_alike {f : Nat} {M : sdM} {p q : Int32} {x y : Option Row} {Q : Int32 → sdM → Prop} (hx : isRowM M p x) (hy : isRowM M q y) (hf : f < 4) (hq : Q (bI (sameL x y f)) M) : w_O_alike M p q (zN f) Q := by
  refine m_isSet hx hf (m_isSet hy hf ⟨fun h => ?_, fun h => m_isSet hx hf ⟨fun g => ?_, fun g => ?_⟩⟩)
  · have h1 : sameL x y f = false := by
      have := mt bI_eq.mpr h
      simp [sameL, this]
    rw [h1] at hq
    exact ⟨Or.inl rfl, hq⟩
  · have h1 := bI_eq.mp h
    have g1 := bI_0.mp g
    have h2 : sameL x y f = true := by
      simp [sameL, h1, lvV_0 hx.ok g1, lvV_0 hy.ok (h1 ▸ g1)]
    rw [h2] at hq
    exact ⟨Or.inr rfl, hq⟩
  · have h1 := bI_eq.mp h
    have g1 := bI_1.mp g
    obtain ⟨v1, v2⟩ := m_value hx hf g1
    obtain ⟨u1, u2⟩ := m_value hy hf (h1 ▸ g1)
    refine ⟨v1, u1, ?_⟩
    rw [v2, u2]
    refine ⟨fun k => ?_, fun k => ?_⟩
    · have h2 : sameL x y f = false := by simp [sameL, k]
      rw [h2] at hq
      exact ⟨Or.inl rfl, hq⟩
    · have h2 : sameL x y f = true := by simp [sameL, h1, k]
      rw [h2] at hq
      exact ⟨Or.inr rfl, hq⟩
theorem isRowM.sgn {M : sdM} {p : Int32} {x : Option Row} (h : isRowM M p x) : 0 ≤ p ↔ x.isSome = true := by
  rcases h with ⟨rfl, rfl⟩ | ⟨n, r, hn, rfl, rfl, hr, hok⟩
  · exact ⟨fun h => absurd h (by decide), fun h => by cases h⟩
  · refine ⟨fun _ => rfl, fun _ => ?_⟩
    rw [show (0 : Int32) = zN 0 from rfl, zN_le (by omega) (by omega)]; omega
theorem m_sameEntry {M : sdM} {p q : Int32} {x y : Option Row} {Q : Int32 → sdM → Prop} (hx : isRowM M p x) (hy : isRowM M q y) (hq : Q (bI (sameE x y)) M) : w_O_sameEntry M p q Q := by
  have fin : ∀ s0 s1 : Int32, (s0 = s1 ↔ x.isSome = y.isSome) → k_O_sameEntry_18 Q M p q s0 s1 := by
    intro s0 s1 hs
    refine ⟨fun h => ⟨Or.inl rfl, ?_⟩, fun h => ?_⟩
    · have : sameE x y = false := by
        have := mt hs.mpr h
        simp [sameE, this]
      rw [this] at hq; exact hq
    · have e0 := hs.mp h
      refine m_alike (f := 0) hx hy (by omega) ⟨fun g => ⟨Or.inl rfl, ?_⟩, fun g0 => ?_⟩
      · have : sameE x y = false := by simp [sameE, bI_0.mp g]
        rw [this] at hq; exact hq
      refine m_alike (f := 1) hx hy (by omega) ⟨fun g => ⟨Or.inl rfl, ?_⟩, fun g1 => ?_⟩
      · have : sameE x y = false := by simp [sameE, bI_0.mp g]
        rw [this] at hq; exact hq
      refine m_alike (f := 2) hx hy (by omega) ⟨fun g => ⟨Or.inl rfl, ?_⟩, fun g2 => ?_⟩
      · have : sameE x y = false := by simp [sameE, bI_0.mp g]
        rw [this] at hq; exact hq
      refine m_alike (f := 3) hx hy (by omega) ⟨fun g => ⟨Or.inl rfl, ?_⟩, fun g3 => ⟨Or.inr rfl, ?_⟩⟩
      · have : sameE x y = false := by simp [sameE, bI_0.mp g]
        rw [this] at hq; exact hq
      · have : sameE x y = true := by simp [sameE, e0, bI_1.mp g0, bI_1.mp g1, bI_1.mp g2, bI_1.mp g3]
        rw [this] at hq; exact hq
  have s1 := hx.sgn
  have s2 := hy.sgn
  refine ⟨fun h => ⟨fun g => ?_, fun g => ?_⟩, fun h => ⟨fun g => ?_, fun g => ?_⟩⟩
  · exact fin 0 0 ⟨fun _ => by rw [s1.mp h, s2.mp g], fun _ => rfl⟩
  · have g9 : y.isSome = false := by simpa using mt s2.mpr g
    exact fin 0 1 ⟨fun h9 => absurd h9 (by decide), fun h9 => by rw [s1.mp h, g9] at h9; cases h9⟩
  · have h9' : x.isSome = false := by simpa using mt s1.mpr h
    exact fin 1 0 ⟨fun h9 => absurd h9 (by decide), fun h9 => by rw [h9', s2.mp g] at h9; cases h9⟩
  · have g9 : y.isSome = false := by simpa using mt s2.mpr g
    have h9' : x.isSome = false := by simpa using mt s1.mpr h
    exact fin 1 1 ⟨fun _ => by rw [h9', g9], fun _ => rfl⟩
theorem zN4 {s l : Nat} : ((4 : Int32) * zN s) + zN l = zN (4 * s + l) := by rw [show (4 : Int32) = zN 4 from rfl, zN_mul, zN_add]
theorem zN48 {s l : Nat} : ((48 : Int32) * zN s) + ((12 : Int32) * zN l) = zN (48 * s + 12 * l) := by rw [show (48 : Int32) = zN 48 from rfl, show (12 : Int32) = zN 12 from rfl, zN_mul, zN_mul, zN_add]
/-- keys of the rows are different -/
theorem okL.key_inj {R : List Row} (h : okL R) {i j : Nat} {r q : Row} (hi : R[i]? = some r) (hj : R[j]? = some q) (he : r.1 = q.1) : i = j := by
  obtain ⟨h1, e1⟩ := List.getElem?_eq_some_iff.mp hi
  obtain ⟨h2, e2⟩ := List.getElem?_eq_some_iff.mp hj
  have hp := List.pairwise_iff_getElem.mp h.2.1
  rcases Nat.lt_trichotomy i j with hlt | heq | hgt
  · have := hp i j h1 h2 hlt; rw [e1, e2] at this; omega
  · exact heq
  · have := hp j i h2 h1 hgt; rw [e1, e2] at this; omega
theorem fi_some {R : List Row} (h : okL R) {k : Int32} {i : Nat} {r : Row} (hr : R[i]? = some r) (hk : zN r.1 = k) : fi R k = some i := by
  obtain ⟨h1, e1⟩ := List.getElem?_eq_some_iff.mp hr
  unfold fi
  rw [List.findIdx?_eq_some_iff_getElem]
  refine ⟨h1, by simp [e1, hk], fun j hj => ?_⟩
  intro h9
  have h9 : zN R[j].1 = k := by simpa using h9
  have b1 := (h.1 R[j] (List.getElem_mem _)).1
  have b2 := (h.1 r (List.mem_of_getElem? hr)).1
  have : R[j].1 = r.1 := (zN_eq (by omega) (by omega)).mp (h9.trans hk.symm)
  have := h.key_inj (List.getElem?_eq_getElem (by omega)) hr this
  omega
theorem fi_none {R : List Row} {k : Int32} (h : ∀ (i : Nat) (r : Row), R[i]? = some r → ¬ zN r.1 = k) : fi R k = none := by
  unfold fi
  rw [List.findIdx?_eq_none_iff]
  intro x hx
  obtain ⟨j, hj⟩ := List.mem_iff_getElem?.mp hx
  simpa using h j x hj
theorem m_find_loop {s l : Nat} {M : sdM} {R : List Row} {k : Int32} {Q : Int32 → sdM → Prop} (hs : s < 17) (hl : l < 4) (h : RMl M s l R) (hok : okL R) (hq : Q (rowI (48 * s + 12 * l) (fi R k)) M) :
    ∀ (d i : Nat) (a : Int32), i + d = R.length → ((∀ (j : Nat) (r : Row), j < i → R[j]? = some r → ¬ zN r.1 = k) ∧ a = -1 ∨ ∃ j r, j < i ∧ R[j]? = some r ∧ zN r.1 = k ∧ a = zN (48 * s + 12 * l + j)) → h_O_find_6 Q (d + 1) M (zN s) (zN l) k a (zN i) := by
  have hlen := hok.2.2
  intro d
  induction d with
  | zero =>
    intro i a hi ha
    show vp_in _ 68 ∧ _
    rw [zN4, zN_nat (by omega), h.1]
    refine ⟨(zN_in (by omega)).mpr (by omega), fun _ => ?_, fun hn => (hn ((zN_le (by omega) (by omega)).mpr (by omega))).elim⟩
    rcases ha with ⟨h1, rfl⟩ | ⟨j, r, hj, hr, hk, rfl⟩
    · rw [fi_none (fun j r hr => h1 j r (by have := (List.getElem?_eq_some_iff.mp hr).1; omega) hr)] at hq
      exact hq
    · rw [fi_some hok hr hk] at hq
      exact hq
  | succ d ih =>
    intro i a hi ha
    have hil : i < R.length := by omega
    have hr : R[i]? = some R[i] := List.getElem?_eq_getElem hil
    have hrow := h.2 i _ hr
    show vp_in _ 68 ∧ _
    rw [zN4, zN48, zN_add, zN_nat (show 4 * s + l < _ by omega), zN_nat (show 48 * s + 12 * l + i < _ by omega), h.1, hrow.1]
    refine ⟨(zN_in (by omega)).mpr (by omega), fun hn => ?_, fun _ => ⟨(zN_in (by omega)).mpr (by omega), fun hne => ?_, fun he => ?_⟩⟩
    · rw [zN_le (by omega) (by omega)] at hn; omega
    · show h_O_find_6 Q (d + 1) M (zN s) (zN l) k a (zN i + 1)
      rw [show (1 : Int32) = zN 1 from rfl, zN_add]
      refine ih (i + 1) a (by omega) ?_
      rcases ha with ⟨h1, rfl⟩ | ⟨j, r, hj, hr9, hk, rfl⟩
      · refine Or.inl ⟨fun j r hj hr9 => ?_, rfl⟩
        by_cases hji : j = i
        · subst hji; rw [hr] at hr9; cases hr9; exact hne
        · exact h1 j r (by omega) hr9
      · exact Or.inr ⟨j, r, by omega, hr9, hk, rfl⟩
    · show h_O_find_6 Q (d + 1) M (zN s) (zN l) k (zN (48 * s + 12 * l + i)) (zN i + 1)
      rw [show (1 : Int32) = zN 1 from rfl, zN_add]
      exact ih (i + 1) _ (by omega) (Or.inr ⟨i, R[i], by omega, hr, he, rfl⟩)
theorem m_find {s l : Nat} {M : sdM} {R : List Row} {k : Int32} {Q : Int32 → sdM → Prop} (hs : s < 17) (hl : l < 4) (h : RMl M s l R) (hok : okL R) (hq : Q (rowI (48 * s + 12 * l) (fi R k)) M) : w_O_find M (zN s) (zN l) k Q :=
  ⟨R.length + 1, m_find_loop hs hl h hok hq R.length 0 _ (by omega) (Or.inl ⟨fun _ _ hj => by omega, rfl⟩)⟩
theorem RMl.found {M : sdM} {s l : Nat} {R : List Row} {k : Int32} (h : RMl M s l R) (hR : okL R) (hs : s < 17) (hl : l < 4) : isRowM M (rowI (48 * s + 12 * l) (fi R k)) (atR R (fi R k)) := by
  cases hf : fi R k with
  | none => exact Or.inl ⟨rfl, rfl⟩
  | some i =>
    have hi : i < R.length := by
      unfold fi at hf
      exact (List.findIdx?_eq_some_iff_getElem.mp hf).1
    have hr : R[i]? = some R[i] := List.getElem?_eq_getElem hi
    have := hR.2.2
    rw [show atR R (some i) = some R[i] from hr]
    exact Or.inr ⟨48 * s + 12 * l + i, R[i], by omega, rfl, rfl, h.2 i _ hr, hR.1 _ (List.getElem_mem _)⟩
/-- nothing changed but the sets' arrays of the model -/
def outM (M M' : sdM) : Prop := ∀ c, ¬ (129 ≤ c ∧ c ≤ 132) → M' c = M c
theorem outM.rf (M : sdM) : outM M M := fun _ _ => rfl
theorem outM.tr {M M' M'' : sdM} (h : outM M M') (h' : outM M' M'') : outM M M'' := fun c hc => (h' c hc).trans (h c hc)
/-- M' is M with the model's row a written over the row b -/
def MovedM (M M' : sdM) (a b : Nat) : Prop := outM M M' ∧ M' 129 = M 129 ∧ (∀ r, rowAtM M a r → rowAtM M' b r) ∧ (∀ c r, c ≠ b → rowAtM M c r → rowAtM M' c r)
theorem m_put {a b : Nat} {M : sdM} {Q : sdM → Prop} (ha : a < 816) (hb : b < 816) (hq : ∀ M', MovedM M M' a b → Q M') : w_O_put M (zN a) (zN b) Q := by
  refine ⟨(zN_in (by omega)).mpr ha, (zN_in (by omega)).mpr hb, fun M1 e1 => ⟨(zN_in (by omega)).mpr ha, (zN_in (by omega)).mpr hb, fun M2 e2 => ⟨5, ?_⟩⟩⟩
  rw [zN_nat (by omega), zN_nat (by omega)] at e1 e2
  refine ⟨fun h => absurd h (by decide), fun _ => ?_⟩
  rw [show (0 : Int32) = zN 0 from rfl, zN4, zN4, zN_nat (by omega), zN_nat (by omega)]
  refine ⟨(zN_in (by omega)).mpr (by omega), (zN_in (by omega)).mpr (by omega), fun M3 e3 => ?_⟩
  refine ⟨fun h => absurd h (by decide), fun _ => ?_⟩
  rw [show zN 0 + 1 = zN 1 from rfl, zN4, zN4, zN_nat (by omega), zN_nat (by omega)]
  refine ⟨(zN_in (by omega)).mpr (by omega), (zN_in (by omega)).mpr (by omega), fun M4 e4 => ?_⟩
  refine ⟨fun h => absurd h (by decide), fun _ => ?_⟩
  rw [show zN 1 + 1 = zN 2 from rfl, zN4, zN4, zN_nat (by omega), zN_nat (by omega)]
  refine ⟨(zN_in (by omega)).mpr (by omega), (zN_in (by omega)).mpr (by omega), fun M5 e5 => ?_⟩
  refine ⟨fun h => absurd h (by decide), fun _ => ?_⟩
  rw [show zN 2 + 1 = zN 3 from rfl, zN4, zN4, zN_nat (by omega), zN_nat (by omega)]
  refine ⟨(zN_in (by omega)).mpr (by omega), (zN_in (by omega)).mpr (by omega), fun M6 e6 => ?_⟩
  refine ⟨fun _ => hq M6 ?_, fun h => absurd (by decide) h⟩
  have o6 : ∀ c, c ≠ 132 → M6 c = M2 c := fun c hc => by rw [e6, sd_s_o hc, e5, sd_s_o hc, e4, sd_s_o hc, e3, sd_s_o hc]
  have v : ∀ j, (∀ f, f < 4 → j ≠ 4 * b + f) → M6 132 j = M 132 j := by
    intro j hj
    have := hj 0 (by omega); have := hj 1 (by omega); have := hj 2 (by omega); have := hj 3 (by omega)
    rw [e6, sd_s_ne (by omega), e5, sd_s_ne (by omega), e4, sd_s_ne (by omega), e3, sd_s_ne (by omega), e2, sd_s_o (by omega), e1, sd_s_o (by omega)]
  have z : M2 132 = M 132 := by rw [e2, sd_s_o (by omega), e1, sd_s_o (by omega)]
  refine ⟨fun c hc => ?_, ?_, fun r hr => ⟨?_, ?_, fun f hf hbit => ?_⟩, fun c r hc hr => ⟨?_, ?_, fun f hf hbit => ?_⟩⟩
  · rw [o6 c (by omega), e2, sd_s_o (by omega), e1, sd_s_o (by omega)]
  · rw [o6 _ (by omega), e2, sd_s_o (by omega), e1, sd_s_o (by omega)]
  · rw [o6 _ (by omega), e2, sd_s_o (by omega), e1, sd_s_self]; exact hr.1
  · rw [o6 _ (by omega), e2, sd_s_self, e1, sd_s_o (by omega)]; exact hr.2.1
  · by_cases hab : a = b
    · subst hab
      have : M6 132 (4 * a + f) = M 132 (4 * a + f) := by
        have : f = 0 ∨ f = 1 ∨ f = 2 ∨ f = 3 := by omega
        rcases this with rfl | rfl | rfl | rfl <;> simp [e6, e5, e4, e3, sd_s, va_up, upd, z]
      rw [this]; exact hr.2.2 f hf hbit
    · have : M6 132 (4 * b + f) = M 132 (4 * a + f) := by
        have hf' : f = 0 ∨ f = 1 ∨ f = 2 ∨ f = 3 := by omega
        rcases hf' with rfl | rfl | rfl | rfl
        · rw [e6, sd_s_ne (by omega), e5, sd_s_ne (by omega), e4, sd_s_ne (by omega), e3, sd_s_self, z]
        · rw [e6, sd_s_ne (by omega), e5, sd_s_ne (by omega), e4, sd_s_self, e3, sd_s_ne (by omega), z]
        · rw [e6, sd_s_ne (by omega), e5, sd_s_self, e4, sd_s_ne (by omega), e3, sd_s_ne (by omega), z]
        · rw [e6, sd_s_self, e5, sd_s_ne (by omega), e4, sd_s_ne (by omega), e3, sd_s_ne (by omega), z]
      rw [this]; exact hr.2.2 f hf hbit
  · rw [o6 _ (by omega), e2, sd_s_o (by omega), e1, sd_s_ne hc]; exact hr.1
  · rw [o6 _ (by omega), e2, sd_s_ne hc, e1, sd_s_o (by omega)]; exact hr.2.1
  · rw [v _ (fun g hg => by omega)]; exact hr.2.2 f hf hbit
