/-! The chain of the next orders, for rows of seven at most. -/
theorem chn_a : ∀ m : Nat, m < 7 → chn (lexO m (List.range m)) = true := by decide +kernel
theorem chn_7 : chn (lexO 7 (List.range 7)) = true := by decide +kernel
