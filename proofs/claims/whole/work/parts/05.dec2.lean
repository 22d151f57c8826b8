-- 05.dec2: the tables are the code (by program gen04.py)
theorem ok_120 : ∀ m, m < 15 → okM (PR (120 + m)) = true := by decide +kernel
theorem ok_135 : ∀ m, m < 15 → okM (PR (135 + m)) = true := by decide +kernel
theorem ok_150 : ∀ m, m < 15 → okM (PR (150 + m)) = true := by decide +kernel
theorem ok_165 : ∀ m, m < 15 → okM (PR (165 + m)) = true := by decide +kernel
