/-! the layouts' predicates in a world that has grown -/
theorem sd_nr {fs : List (Option (Option Nat))} (h : fs.all (fun q => q == none || q == some none) = true) : sd_noref fs := by
  intro q hq t e
  have h1 := List.all_eq_true.mp h q hq
  subst e
  simp at h1
section
variable {n n2 : Nat} {L L2 : Nat → sdL} {dA : Nat → ClassId}
theorem isI.up {c : ClassId} {t len : Nat} (h : isI n L c t len) (u : sd_up n L n2 L2) : isI n2 L2 c t len := ⟨Nat.lt_of_lt_of_le h.1 u.1, (u.2 _ h.1).trans h.2⟩
theorem isQ.up {c : ClassId} {t len : Nat} {g : Nat → Nat} (h : isQ n L c t len g) (u : sd_up n L n2 L2) : isQ n2 L2 c t len g := ⟨Nat.lt_of_lt_of_le h.1 u.1, (u.2 _ h.1).trans h.2⟩
theorem isT.up {o : Nat} (h : isT n L o) (u : sd_up n L n2 L2) : isT n2 L2 o := ⟨Nat.lt_of_lt_of_le h.1 u.1, (u.2 _ h.1).trans h.2⟩
theorem isF.up {o : Nat} (h : isF n L o) (u : sd_up n L n2 L2) : isF n2 L2 o := ⟨Nat.lt_of_lt_of_le h.1 u.1, (u.2 _ h.1).trans h.2⟩
theorem isR.up {o : Nat} (h : isR n L o) (u : sd_up n L n2 L2) : isR n2 L2 o := ⟨Nat.lt_of_lt_of_le h.1 u.1, (u.2 _ h.1).trans h.2⟩
theorem isS.up {o : Nat} (h : isS n L dA o) (u : sd_up n L n2 L2) : isS n2 L2 dA o := ⟨Nat.lt_of_lt_of_le h.1 u.1, (u.2 _ h.1).trans h.2.1, h.counts.up u, h.keys.up u, h.values.up u, h.given.up u⟩
theorem isN.up {o : Nat} (h : isN n L dA o) (u : sd_up n L n2 L2) : isN n2 L2 dA o := ⟨Nat.lt_of_lt_of_le h.1 u.1, (u.2 _ h.1).trans h.2.1, h.candidate.up u, h.base.up u⟩
theorem isC.up (h : isC n L dA) (u : sd_up n L n2 L2) : isC n2 L2 dA := ⟨Nat.lt_of_lt_of_le h.1 u.1, (u.2 _ h.1).trans h.2.1, h.leaves.up u, h.leafTable.up u, h.rules.up u, fun j hj => (h.2.2.2.2.2.1 j hj).up u, fun j hj => (h.2.2.2.2.2.2 j hj).up u⟩
theorem isD.up (h : isD n L dA) (u : sd_up n L n2 L2) : isD n2 L2 dA := ⟨Nat.lt_of_lt_of_le h.1 u.1, (u.2 _ h.1).trans h.2.1, h.schema.up u, h.running.up u, h.saved.up u, h.outcome.up u, h.older.up u, h.sessions.up u, h.trouble.up u, fun j hj => (h.2.2.2.2.2.2.2.2.2.1 j hj).up u, fun j hj => (h.2.2.2.2.2.2.2.2.2.2 j hj).up u⟩
theorem isG.up {o ca ba ru ou tr : Nat} (h : isG n L dA o ca ba ru ou tr) (u : sd_up n L n2 L2) : isG n2 L2 dA o ca ba ru ou tr := ⟨Nat.lt_of_lt_of_le h.1 u.1, (u.2 _ h.1).trans h.2.1, h.candidate.up u, h.base.up u, h.running.up u, h.outcome.up u, h.trouble.up u⟩
theorem isK.up {o se tr : Nat} (h : isK n L dA o se tr) (u : sd_up n L n2 L2) : isK n2 L2 dA o se tr := ⟨Nat.lt_of_lt_of_le h.1 u.1, (u.2 _ h.1).trans h.2.1, h.schema.up u, h.settings.up u, h.trouble.up u⟩
theorem isE.up {o ca ru : Nat} (h : isE n L dA o ca ru) (u : sd_up n L n2 L2) : isE n2 L2 dA o ca ru := ⟨Nat.lt_of_lt_of_le h.1 u.1, (u.2 _ h.1).trans h.2.1, h.candidate.up u, h.running.up u⟩
/-- one cell of the world is laid out anew: what lies below it stays -/
theorem sd_up_at {o : Nat} {ly : sdL} (h : o ≤ n) : sd_up o L n (va_up L o ly) := ⟨h, fun _ hk => va_up_ne L ly (Nat.ne_of_lt hk)⟩
theorem sd_loc_at {o : Nat} {ly : sdL} (h : sd_loc n L) (hly : ∀ (a a' : Nat → Nat) (f : Nat → Int32), (∀ t, t < n → a t = a' t) → ly a f = ly a' f) : sd_loc n (va_up L o ly) := fun k hk a a' f e => by
  by_cases h9 : k = o
  · subst h9; rw [va_up_self]; exact hly a a' f e
  · rw [va_up_ne L ly h9]; exact h k hk a a' f e
end
