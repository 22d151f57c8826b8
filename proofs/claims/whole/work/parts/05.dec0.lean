-- 05.dec0: the tables are the code (by program gen04.py)
theorem ok_0 : ∀ m, m < 15 → okM (PR (0 + m)) = true := by decide +kernel
theorem ok_15 : ∀ m, m < 15 → okM (PR (15 + m)) = true := by decide +kernel
theorem ok_30 : ∀ m, m < 15 → okM (PR (30 + m)) = true := by decide +kernel
theorem ok_45 : ∀ m, m < 15 → okM (PR (45 + m)) = true := by decide +kernel
