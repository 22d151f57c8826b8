-- 05.dec1: the tables are the code (by program gen04.py)
theorem ok_60 : ∀ m, m < 15 → okM (PR (60 + m)) = true := by decide +kernel
theorem ok_75 : ∀ m, m < 15 → okM (PR (75 + m)) = true := by decide +kernel
theorem ok_90 : ∀ m, m < 15 → okM (PR (90 + m)) = true := by decide +kernel
theorem ok_105 : ∀ m, m < 15 → okM (PR (105 + m)) = true := by decide +kernel
