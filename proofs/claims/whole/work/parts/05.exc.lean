/-! the words that the four exceptions rest on -/
def sdExN : List String := ["java/lang/RuntimeException", "java/lang/Exception"]
theorem fit_N : ∀ n ∈ sdExN, Bundle.fit n = true := by decide +kernel
def sd_okb (w : Cond) : Bool := decide (w ∈ sdB0) || (decide (w ∈ sdNw) || (decide (w = .isRef (.static Bundle.tN "UNASSIGNED_STACK" Bundle.steD)) || (decide (w = .isRef (.static Bundle.tN "SUPPRESSED_SENTINEL" Bundle.listD)) || (decide (w = .laysStatic Bundle.tN "UNASSIGNED_STACK" Bundle.steD) || decide (w = .laysStatic Bundle.tN "SUPPRESSED_SENTINEL" Bundle.listD)))))
theorem sd_okb_ok {c : Cond} {L : List Cond} (h : L.all sd_okb = true) : ∀ w ∈ L, sd_ok (c :: sdB0) sdNw w := by
  intro w hw
  have h1 := List.all_eq_true.mp h w hw
  simp only [sd_okb, Bool.or_eq_true, decide_eq_true_eq] at h1
  rcases h1 with h1 | h1 | h1 | h1 | h1 | h1
  · exact Or.inl (List.mem_cons_of_mem _ h1)
  · exact Or.inr (Or.inl h1)
  · exact Or.inr (Or.inr (Or.inl h1))
  · exact Or.inr (Or.inr (Or.inr (Or.inl h1)))
  · exact Or.inr (Or.inr (Or.inr (Or.inr (Or.inl h1))))
  · exact Or.inr (Or.inr (Or.inr (Or.inr (Or.inr h1))))
theorem fit_IAE : Bundle.fit "java/lang/IllegalArgumentException" = true := by decide +kernel
set_option maxRecDepth 100000 in
theorem oa_IAE {c : Cond} : ∀ w ∈ Bundle.ownAtoms "SettingsDesk" 95 "java/lang/IllegalArgumentException" sdExN, sd_ok (c :: sdB0) sdNw w := sd_okb_ok (by decide +kernel)
theorem fit_IOB : Bundle.fit "java/lang/IndexOutOfBoundsException" = true := by decide +kernel
set_option maxRecDepth 100000 in
theorem oa_IOB {c : Cond} : ∀ w ∈ Bundle.ownAtoms "SettingsDesk" 210 "java/lang/IndexOutOfBoundsException" sdExN, sd_ok (c :: sdB0) sdNw w := sd_okb_ok (by decide +kernel)
theorem fit_ISE : Bundle.fit "java/lang/IllegalStateException" = true := by decide +kernel
set_option maxRecDepth 100000 in
theorem oa_ISE {c : Cond} : ∀ w ∈ Bundle.ownAtoms "SettingsDesk" 74 "java/lang/IllegalStateException" sdExN, sd_ok (c :: sdB0) sdNw w := sd_okb_ok (by decide +kernel)
theorem fit_UOE : Bundle.fit "java/lang/UnsupportedOperationException" = true := by decide +kernel
set_option maxRecDepth 100000 in
theorem oa_UOE {c : Cond} : ∀ w ∈ Bundle.ownAtoms "SettingsDesk" 185 "java/lang/UnsupportedOperationException" sdExN, sd_ok (c :: sdB0) sdNw w := sd_okb_ok (by decide +kernel)
