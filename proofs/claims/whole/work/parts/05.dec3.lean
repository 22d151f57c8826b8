-- 05.dec3: the tables are the code (by program gen04.py)
theorem ok_180 : ∀ m, m < 15 → okM (PR (180 + m)) = true := by decide +kernel
theorem ok_195 : ∀ m, m < 15 → okM (PR (195 + m)) = true := by decide +kernel
theorem ok_210 : ∀ m, m < 15 → okM (PR (210 + m)) = true := by decide +kernel
theorem ok_225 : ∀ m, m < 5 → okM (PR (225 + m)) = true := by decide +kernel
