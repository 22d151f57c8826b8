-- 39.pure10: writes into a land of the class
theorem cn_up {f : FA} {k : Nat} {v : Int32} (h : CN f) (h1 : k ≠ 1) (h4 : k ≠ 4) (h9 : k ≠ 9) : CN (upd f k v) ∧ cB (upd f k v) = cB f ∧ cP (upd f k v) = cP f ∧ cT (upd f k v) = cT f := by
  have e1 : cB (upd f k v) = cB f := by unfold cB; rw [upd_ne (Ne.symm h1)]
  have e4 : cP (upd f k v) = cP f := by unfold cP; rw [upd_ne (Ne.symm h4)]
  have e9 : cT (upd f k v) = cT f := by unfold cT; rw [upd_ne (Ne.symm h9)]
  refine ⟨?_, e1, e4, e9⟩
  unfold CN
  rw [e1, e4, e9, upd_ne (Ne.symm h1), upd_ne (Ne.symm h4), upd_ne (Ne.symm h9)]
  exact h
section W10
variable {M : Mem} {l : Nat} {f : FA} {v : Int32}
theorem LL.w10 (h : LL M l f) : LL (mu M 1 l 0 10 v) l (upd f 2 v) := by
  obtain ⟨hc, ⟨a1, a2, a3, a4, a5, a6, a7, a8, a9, a10⟩, hb, hp⟩ := h
  obtain ⟨u0, u1, u2, u3⟩ := cn_up (v := v) (k := 2) hc (by decide) (by decide) (by decide)
  refine ⟨u0, ⟨?_, ?_, ?_, ?_, ?_, ?_, ?_, ?_, ?_, ?_⟩, fun b hb' => ?_, fun p hp' => ?_⟩
  any_goals (simp [mu, mr, upd, *]; done)
  · rw [u1] at hb'
    rw [upd_ne (by omega), upd_ne (by omega), upd_ne (by omega), upd_ne (by omega)]
    exact hb b hb'
  · rw [u2] at hp'
    rw [upd_ne (by omega), upd_ne (by omega), upd_ne (by omega), upd_ne (by omega)]
    exact hp p hp'
theorem LL.w5 (h : LL M l f) : LL (mu M 1 l 0 5 v) l (upd f 3 v) := by
  obtain ⟨hc, ⟨a1, a2, a3, a4, a5, a6, a7, a8, a9, a10⟩, hb, hp⟩ := h
  obtain ⟨u0, u1, u2, u3⟩ := cn_up (v := v) (k := 3) hc (by decide) (by decide) (by decide)
  refine ⟨u0, ⟨?_, ?_, ?_, ?_, ?_, ?_, ?_, ?_, ?_, ?_⟩, fun b hb' => ?_, fun p hp' => ?_⟩
  any_goals (simp [mu, mr, upd, *]; done)
  · rw [u1] at hb'
    rw [upd_ne (by omega), upd_ne (by omega), upd_ne (by omega), upd_ne (by omega)]
    exact hb b hb'
  · rw [u2] at hp'
    rw [upd_ne (by omega), upd_ne (by omega), upd_ne (by omega), upd_ne (by omega)]
    exact hp p hp'
theorem LL.w6 (h : LL M l f) : LL (mu M 1 l 0 6 v) l (upd f 5 v) := by
  obtain ⟨hc, ⟨a1, a2, a3, a4, a5, a6, a7, a8, a9, a10⟩, hb, hp⟩ := h
  obtain ⟨u0, u1, u2, u3⟩ := cn_up (v := v) (k := 5) hc (by decide) (by decide) (by decide)
  refine ⟨u0, ⟨?_, ?_, ?_, ?_, ?_, ?_, ?_, ?_, ?_, ?_⟩, fun b hb' => ?_, fun p hp' => ?_⟩
  any_goals (simp [mu, mr, upd, *]; done)
  · rw [u1] at hb'
    rw [upd_ne (by omega), upd_ne (by omega), upd_ne (by omega), upd_ne (by omega)]
    exact hb b hb'
  · rw [u2] at hp'
    rw [upd_ne (by omega), upd_ne (by omega), upd_ne (by omega), upd_ne (by omega)]
    exact hp p hp'
theorem LL.w7 (h : LL M l f) : LL (mu M 1 l 0 7 v) l (upd f 6 v) := by
  obtain ⟨hc, ⟨a1, a2, a3, a4, a5, a6, a7, a8, a9, a10⟩, hb, hp⟩ := h
  obtain ⟨u0, u1, u2, u3⟩ := cn_up (v := v) (k := 6) hc (by decide) (by decide) (by decide)
  refine ⟨u0, ⟨?_, ?_, ?_, ?_, ?_, ?_, ?_, ?_, ?_, ?_⟩, fun b hb' => ?_, fun p hp' => ?_⟩
  any_goals (simp [mu, mr, upd, *]; done)
  · rw [u1] at hb'
    rw [upd_ne (by omega), upd_ne (by omega), upd_ne (by omega), upd_ne (by omega)]
    exact hb b hb'
  · rw [u2] at hp'
    rw [upd_ne (by omega), upd_ne (by omega), upd_ne (by omega), upd_ne (by omega)]
    exact hp p hp'
theorem LL.w8 (h : LL M l f) : LL (mu M 1 l 0 8 v) l (upd f 7 v) := by
  obtain ⟨hc, ⟨a1, a2, a3, a4, a5, a6, a7, a8, a9, a10⟩, hb, hp⟩ := h
  obtain ⟨u0, u1, u2, u3⟩ := cn_up (v := v) (k := 7) hc (by decide) (by decide) (by decide)
  refine ⟨u0, ⟨?_, ?_, ?_, ?_, ?_, ?_, ?_, ?_, ?_, ?_⟩, fun b hb' => ?_, fun p hp' => ?_⟩
  any_goals (simp [mu, mr, upd, *]; done)
  · rw [u1] at hb'
    rw [upd_ne (by omega), upd_ne (by omega), upd_ne (by omega), upd_ne (by omega)]
    exact hb b hb'
  · rw [u2] at hp'
    rw [upd_ne (by omega), upd_ne (by omega), upd_ne (by omega), upd_ne (by omega)]
    exact hp p hp'
theorem LL.w9 (h : LL M l f) : LL (mu M 1 l 0 9 v) l (upd f 8 v) := by
  obtain ⟨hc, ⟨a1, a2, a3, a4, a5, a6, a7, a8, a9, a10⟩, hb, hp⟩ := h
  obtain ⟨u0, u1, u2, u3⟩ := cn_up (v := v) (k := 8) hc (by decide) (by decide) (by decide)
  refine ⟨u0, ⟨?_, ?_, ?_, ?_, ?_, ?_, ?_, ?_, ?_, ?_⟩, fun b hb' => ?_, fun p hp' => ?_⟩
  any_goals (simp [mu, mr, upd, *]; done)
  · rw [u1] at hb'
    rw [upd_ne (by omega), upd_ne (by omega), upd_ne (by omega), upd_ne (by omega)]
    exact hb b hb'
  · rw [u2] at hp'
    rw [upd_ne (by omega), upd_ne (by omega), upd_ne (by omega), upd_ne (by omega)]
    exact hp p hp'
theorem LL.w11 (h : LL M l f) : LL (mu M 1 l 0 11 v) l (upd f 0 v) := by
  obtain ⟨hc, ⟨a1, a2, a3, a4, a5, a6, a7, a8, a9, a10⟩, hb, hp⟩ := h
  obtain ⟨u0, u1, u2, u3⟩ := cn_up (v := v) (k := 0) hc (by decide) (by decide) (by decide)
  refine ⟨u0, ⟨?_, ?_, ?_, ?_, ?_, ?_, ?_, ?_, ?_, ?_⟩, fun b hb' => ?_, fun p hp' => ?_⟩
  any_goals (simp [mu, mr, upd, *]; done)
  · rw [u1] at hb'
    rw [upd_ne (by omega), upd_ne (by omega), upd_ne (by omega), upd_ne (by omega)]
    exact hb b hb'
  · rw [u2] at hp'
    rw [upd_ne (by omega), upd_ne (by omega), upd_ne (by omega), upd_ne (by omega)]
    exact hp p hp'
theorem LL.b0 {c : Nat} (h : LL M l f) (hcc : c < cB f) : LL (mu M 3 l c 0 v) l (upd f (10 + 4 * c) v) := by
  have q9 := h.p9
  have q10 := h.b10
  obtain ⟨hc, ha, hb, hp⟩ := h
  obtain ⟨u0, u1, u2, u3⟩ := cn_up (v := v) (k := 10 + 4 * c) hc (by omega) (by omega) (by omega)
  refine ⟨u0, ?_, fun b hb' => ?_, fun p hp' => ?_⟩
  · simp only [upd_ne (show (0 : Nat) ≠ 10 + 4 * c by omega), upd_ne (show (1 : Nat) ≠ 10 + 4 * c by omega), upd_ne (show (2 : Nat) ≠ 10 + 4 * c by omega), upd_ne (show (3 : Nat) ≠ 10 + 4 * c by omega), upd_ne (show (4 : Nat) ≠ 10 + 4 * c by omega), upd_ne (show (5 : Nat) ≠ 10 + 4 * c by omega), upd_ne (show (6 : Nat) ≠ 10 + 4 * c by omega), upd_ne (show (7 : Nat) ≠ 10 + 4 * c by omega), upd_ne (show (8 : Nat) ≠ 10 + 4 * c by omega), upd_ne (show (9 : Nat) ≠ 10 + 4 * c by omega)]
    exact ha
  · rw [u1] at hb'
    have q := hb b hb'
    by_cases z : b = c
    · subst z
      refine ⟨?_, ?_, ?_, ?_⟩
      · rw [upd_mu, upd_at, upd_at]
      · rw [upd_mu, upd_ne (by decide), upd_ne (by omega)]; exact q.2.1
      · rw [upd_mu, upd_ne (by decide), upd_ne (by omega)]; exact q.2.2.1
      · rw [upd_mu, upd_ne (by decide), upd_ne (by omega)]; exact q.2.2.2
    · have z2 : ¬ (3 = 3 ∧ l = l ∧ b = c) := fun y => z y.2.2
      rw [mz_ne z2, upd_ne (by omega), upd_ne (by omega), upd_ne (by omega), upd_ne (by omega)]
      exact q
  · rw [u2] at hp'
    have q := hp p hp'
    rw [upd_ne (by omega), upd_ne (by omega), upd_ne (by omega), upd_ne (by omega)]
    exact q
theorem LL.b1 {c : Nat} (h : LL M l f) (hcc : c < cB f) : LL (mu M 3 l c 1 v) l (upd f (11 + 4 * c) v) := by
  have q9 := h.p9
  have q10 := h.b10
  obtain ⟨hc, ha, hb, hp⟩ := h
  obtain ⟨u0, u1, u2, u3⟩ := cn_up (v := v) (k := 11 + 4 * c) hc (by omega) (by omega) (by omega)
  refine ⟨u0, ?_, fun b hb' => ?_, fun p hp' => ?_⟩
  · simp only [upd_ne (show (0 : Nat) ≠ 11 + 4 * c by omega), upd_ne (show (1 : Nat) ≠ 11 + 4 * c by omega), upd_ne (show (2 : Nat) ≠ 11 + 4 * c by omega), upd_ne (show (3 : Nat) ≠ 11 + 4 * c by omega), upd_ne (show (4 : Nat) ≠ 11 + 4 * c by omega), upd_ne (show (5 : Nat) ≠ 11 + 4 * c by omega), upd_ne (show (6 : Nat) ≠ 11 + 4 * c by omega), upd_ne (show (7 : Nat) ≠ 11 + 4 * c by omega), upd_ne (show (8 : Nat) ≠ 11 + 4 * c by omega), upd_ne (show (9 : Nat) ≠ 11 + 4 * c by omega)]
    exact ha
  · rw [u1] at hb'
    have q := hb b hb'
    by_cases z : b = c
    · subst z
      refine ⟨?_, ?_, ?_, ?_⟩
      · rw [upd_mu, upd_ne (by decide), upd_ne (by omega)]; exact q.1
      · rw [upd_mu, upd_at, upd_at]
      · rw [upd_mu, upd_ne (by decide), upd_ne (by omega)]; exact q.2.2.1
      · rw [upd_mu, upd_ne (by decide), upd_ne (by omega)]; exact q.2.2.2
    · have z2 : ¬ (3 = 3 ∧ l = l ∧ b = c) := fun y => z y.2.2
      rw [mz_ne z2, upd_ne (by omega), upd_ne (by omega), upd_ne (by omega), upd_ne (by omega)]
      exact q
  · rw [u2] at hp'
    have q := hp p hp'
    rw [upd_ne (by omega), upd_ne (by omega), upd_ne (by omega), upd_ne (by omega)]
    exact q
theorem LL.b2 {c : Nat} (h : LL M l f) (hcc : c < cB f) : LL (mu M 3 l c 2 v) l (upd f (12 + 4 * c) v) := by
  have q9 := h.p9
  have q10 := h.b10
  obtain ⟨hc, ha, hb, hp⟩ := h
  obtain ⟨u0, u1, u2, u3⟩ := cn_up (v := v) (k := 12 + 4 * c) hc (by omega) (by omega) (by omega)
  refine ⟨u0, ?_, fun b hb' => ?_, fun p hp' => ?_⟩
  · simp only [upd_ne (show (0 : Nat) ≠ 12 + 4 * c by omega), upd_ne (show (1 : Nat) ≠ 12 + 4 * c by omega), upd_ne (show (2 : Nat) ≠ 12 + 4 * c by omega), upd_ne (show (3 : Nat) ≠ 12 + 4 * c by omega), upd_ne (show (4 : Nat) ≠ 12 + 4 * c by omega), upd_ne (show (5 : Nat) ≠ 12 + 4 * c by omega), upd_ne (show (6 : Nat) ≠ 12 + 4 * c by omega), upd_ne (show (7 : Nat) ≠ 12 + 4 * c by omega), upd_ne (show (8 : Nat) ≠ 12 + 4 * c by omega), upd_ne (show (9 : Nat) ≠ 12 + 4 * c by omega)]
    exact ha
  · rw [u1] at hb'
    have q := hb b hb'
    by_cases z : b = c
    · subst z
      refine ⟨?_, ?_, ?_, ?_⟩
      · rw [upd_mu, upd_ne (by decide), upd_ne (by omega)]; exact q.1
      · rw [upd_mu, upd_ne (by decide), upd_ne (by omega)]; exact q.2.1
      · rw [upd_mu, upd_at, upd_at]
      · rw [upd_mu, upd_ne (by decide), upd_ne (by omega)]; exact q.2.2.2
    · have z2 : ¬ (3 = 3 ∧ l = l ∧ b = c) := fun y => z y.2.2
      rw [mz_ne z2, upd_ne (by omega), upd_ne (by omega), upd_ne (by omega), upd_ne (by omega)]
      exact q
  · rw [u2] at hp'
    have q := hp p hp'
    rw [upd_ne (by omega), upd_ne (by omega), upd_ne (by omega), upd_ne (by omega)]
    exact q
theorem LL.b3 {c : Nat} (h : LL M l f) (hcc : c < cB f) : LL (mu M 3 l c 3 v) l (upd f (13 + 4 * c) v) := by
  have q9 := h.p9
  have q10 := h.b10
  obtain ⟨hc, ha, hb, hp⟩ := h
  obtain ⟨u0, u1, u2, u3⟩ := cn_up (v := v) (k := 13 + 4 * c) hc (by omega) (by omega) (by omega)
  refine ⟨u0, ?_, fun b hb' => ?_, fun p hp' => ?_⟩
  · simp only [upd_ne (show (0 : Nat) ≠ 13 + 4 * c by omega), upd_ne (show (1 : Nat) ≠ 13 + 4 * c by omega), upd_ne (show (2 : Nat) ≠ 13 + 4 * c by omega), upd_ne (show (3 : Nat) ≠ 13 + 4 * c by omega), upd_ne (show (4 : Nat) ≠ 13 + 4 * c by omega), upd_ne (show (5 : Nat) ≠ 13 + 4 * c by omega), upd_ne (show (6 : Nat) ≠ 13 + 4 * c by omega), upd_ne (show (7 : Nat) ≠ 13 + 4 * c by omega), upd_ne (show (8 : Nat) ≠ 13 + 4 * c by omega), upd_ne (show (9 : Nat) ≠ 13 + 4 * c by omega)]
    exact ha
  · rw [u1] at hb'
    have q := hb b hb'
    by_cases z : b = c
    · subst z
      refine ⟨?_, ?_, ?_, ?_⟩
      · rw [upd_mu, upd_ne (by decide), upd_ne (by omega)]; exact q.1
      · rw [upd_mu, upd_ne (by decide), upd_ne (by omega)]; exact q.2.1
      · rw [upd_mu, upd_ne (by decide), upd_ne (by omega)]; exact q.2.2.1
      · rw [upd_mu, upd_at, upd_at]
    · have z2 : ¬ (3 = 3 ∧ l = l ∧ b = c) := fun y => z y.2.2
      rw [mz_ne z2, upd_ne (by omega), upd_ne (by omega), upd_ne (by omega), upd_ne (by omega)]
      exact q
  · rw [u2] at hp'
    have q := hp p hp'
    rw [upd_ne (by omega), upd_ne (by omega), upd_ne (by omega), upd_ne (by omega)]
    exact q
theorem LL.p0 {c : Nat} (h : LL M l f) (hcc : c < cP f) : LL (mu M 5 l c 0 v) l (upd f (50 + 4 * c) v) := by
  have q9 := h.p9
  have q10 := h.b10
  obtain ⟨hc, ha, hb, hp⟩ := h
  obtain ⟨u0, u1, u2, u3⟩ := cn_up (v := v) (k := 50 + 4 * c) hc (by omega) (by omega) (by omega)
  refine ⟨u0, ?_, fun b hb' => ?_, fun p hp' => ?_⟩
  · simp only [upd_ne (show (0 : Nat) ≠ 50 + 4 * c by omega), upd_ne (show (1 : Nat) ≠ 50 + 4 * c by omega), upd_ne (show (2 : Nat) ≠ 50 + 4 * c by omega), upd_ne (show (3 : Nat) ≠ 50 + 4 * c by omega), upd_ne (show (4 : Nat) ≠ 50 + 4 * c by omega), upd_ne (show (5 : Nat) ≠ 50 + 4 * c by omega), upd_ne (show (6 : Nat) ≠ 50 + 4 * c by omega), upd_ne (show (7 : Nat) ≠ 50 + 4 * c by omega), upd_ne (show (8 : Nat) ≠ 50 + 4 * c by omega), upd_ne (show (9 : Nat) ≠ 50 + 4 * c by omega)]
    exact ha
  · rw [u1] at hb'
    have q := hb b hb'
    rw [upd_ne (by omega), upd_ne (by omega), upd_ne (by omega), upd_ne (by omega)]
    exact q
  · rw [u2] at hp'
    have q := hp p hp'
    by_cases z : p = c
    · subst z
      refine ⟨?_, ?_, ?_, ?_⟩
      · rw [upd_mu, upd_at, upd_at]
      · rw [upd_mu, upd_ne (by decide), upd_ne (by omega)]; exact q.2.1
      · rw [upd_mu, upd_ne (by decide), upd_ne (by omega)]; exact q.2.2.1
      · rw [upd_mu, upd_ne (by decide), upd_ne (by omega)]; exact q.2.2.2
    · have z2 : ¬ (5 = 5 ∧ l = l ∧ p = c) := fun y => z y.2.2
      rw [mz_ne z2, upd_ne (by omega), upd_ne (by omega), upd_ne (by omega), upd_ne (by omega)]
      exact q
theorem LL.p1 {c : Nat} (h : LL M l f) (hcc : c < cP f) : LL (mu M 5 l c 1 v) l (upd f (51 + 4 * c) v) := by
  have q9 := h.p9
  have q10 := h.b10
  obtain ⟨hc, ha, hb, hp⟩ := h
  obtain ⟨u0, u1, u2, u3⟩ := cn_up (v := v) (k := 51 + 4 * c) hc (by omega) (by omega) (by omega)
  refine ⟨u0, ?_, fun b hb' => ?_, fun p hp' => ?_⟩
  · simp only [upd_ne (show (0 : Nat) ≠ 51 + 4 * c by omega), upd_ne (show (1 : Nat) ≠ 51 + 4 * c by omega), upd_ne (show (2 : Nat) ≠ 51 + 4 * c by omega), upd_ne (show (3 : Nat) ≠ 51 + 4 * c by omega), upd_ne (show (4 : Nat) ≠ 51 + 4 * c by omega), upd_ne (show (5 : Nat) ≠ 51 + 4 * c by omega), upd_ne (show (6 : Nat) ≠ 51 + 4 * c by omega), upd_ne (show (7 : Nat) ≠ 51 + 4 * c by omega), upd_ne (show (8 : Nat) ≠ 51 + 4 * c by omega), upd_ne (show (9 : Nat) ≠ 51 + 4 * c by omega)]
    exact ha
  · rw [u1] at hb'
    have q := hb b hb'
    rw [upd_ne (by omega), upd_ne (by omega), upd_ne (by omega), upd_ne (by omega)]
    exact q
  · rw [u2] at hp'
    have q := hp p hp'
    by_cases z : p = c
    · subst z
      refine ⟨?_, ?_, ?_, ?_⟩
      · rw [upd_mu, upd_ne (by decide), upd_ne (by omega)]; exact q.1
      · rw [upd_mu, upd_at, upd_at]
      · rw [upd_mu, upd_ne (by decide), upd_ne (by omega)]; exact q.2.2.1
      · rw [upd_mu, upd_ne (by decide), upd_ne (by omega)]; exact q.2.2.2
    · have z2 : ¬ (5 = 5 ∧ l = l ∧ p = c) := fun y => z y.2.2
      rw [mz_ne z2, upd_ne (by omega), upd_ne (by omega), upd_ne (by omega), upd_ne (by omega)]
      exact q
theorem LL.p2 {c : Nat} (h : LL M l f) (hcc : c < cP f) : LL (mu M 5 l c 2 v) l (upd f (52 + 4 * c) v) := by
  have q9 := h.p9
  have q10 := h.b10
  obtain ⟨hc, ha, hb, hp⟩ := h
  obtain ⟨u0, u1, u2, u3⟩ := cn_up (v := v) (k := 52 + 4 * c) hc (by omega) (by omega) (by omega)
  refine ⟨u0, ?_, fun b hb' => ?_, fun p hp' => ?_⟩
  · simp only [upd_ne (show (0 : Nat) ≠ 52 + 4 * c by omega), upd_ne (show (1 : Nat) ≠ 52 + 4 * c by omega), upd_ne (show (2 : Nat) ≠ 52 + 4 * c by omega), upd_ne (show (3 : Nat) ≠ 52 + 4 * c by omega), upd_ne (show (4 : Nat) ≠ 52 + 4 * c by omega), upd_ne (show (5 : Nat) ≠ 52 + 4 * c by omega), upd_ne (show (6 : Nat) ≠ 52 + 4 * c by omega), upd_ne (show (7 : Nat) ≠ 52 + 4 * c by omega), upd_ne (show (8 : Nat) ≠ 52 + 4 * c by omega), upd_ne (show (9 : Nat) ≠ 52 + 4 * c by omega)]
    exact ha
  · rw [u1] at hb'
    have q := hb b hb'
    rw [upd_ne (by omega), upd_ne (by omega), upd_ne (by omega), upd_ne (by omega)]
    exact q
  · rw [u2] at hp'
    have q := hp p hp'
    by_cases z : p = c
    · subst z
      refine ⟨?_, ?_, ?_, ?_⟩
      · rw [upd_mu, upd_ne (by decide), upd_ne (by omega)]; exact q.1
      · rw [upd_mu, upd_ne (by decide), upd_ne (by omega)]; exact q.2.1
      · rw [upd_mu, upd_at, upd_at]
      · rw [upd_mu, upd_ne (by decide), upd_ne (by omega)]; exact q.2.2.2
    · have z2 : ¬ (5 = 5 ∧ l = l ∧ p = c) := fun y => z y.2.2
      rw [mz_ne z2, upd_ne (by omega), upd_ne (by omega), upd_ne (by omega), upd_ne (by omega)]
      exact q
theorem LL.p3 {c : Nat} (h : LL M l f) (hcc : c < cP f) : LL (mu M 5 l c 3 v) l (upd f (53 + 4 * c) v) := by
  have q9 := h.p9
  have q10 := h.b10
  obtain ⟨hc, ha, hb, hp⟩ := h
  obtain ⟨u0, u1, u2, u3⟩ := cn_up (v := v) (k := 53 + 4 * c) hc (by omega) (by omega) (by omega)
  refine ⟨u0, ?_, fun b hb' => ?_, fun p hp' => ?_⟩
  · simp only [upd_ne (show (0 : Nat) ≠ 53 + 4 * c by omega), upd_ne (show (1 : Nat) ≠ 53 + 4 * c by omega), upd_ne (show (2 : Nat) ≠ 53 + 4 * c by omega), upd_ne (show (3 : Nat) ≠ 53 + 4 * c by omega), upd_ne (show (4 : Nat) ≠ 53 + 4 * c by omega), upd_ne (show (5 : Nat) ≠ 53 + 4 * c by omega), upd_ne (show (6 : Nat) ≠ 53 + 4 * c by omega), upd_ne (show (7 : Nat) ≠ 53 + 4 * c by omega), upd_ne (show (8 : Nat) ≠ 53 + 4 * c by omega), upd_ne (show (9 : Nat) ≠ 53 + 4 * c by omega)]
    exact ha
  · rw [u1] at hb'
    have q := hb b hb'
    rw [upd_ne (by omega), upd_ne (by omega), upd_ne (by omega), upd_ne (by omega)]
    exact q
  · rw [u2] at hp'
    have q := hp p hp'
    by_cases z : p = c
    · subst z
      refine ⟨?_, ?_, ?_, ?_⟩
      · rw [upd_mu, upd_ne (by decide), upd_ne (by omega)]; exact q.1
      · rw [upd_mu, upd_ne (by decide), upd_ne (by omega)]; exact q.2.1
      · rw [upd_mu, upd_ne (by decide), upd_ne (by omega)]; exact q.2.2.1
      · rw [upd_mu, upd_at, upd_at]
    · have z2 : ¬ (5 = 5 ∧ l = l ∧ p = c) := fun y => z y.2.2
      rw [mz_ne z2, upd_ne (by omega), upd_ne (by omega), upd_ne (by omega), upd_ne (by omega)]
      exact q
/-- what lies outside the flat row -/
theorem LL.ly {c : Nat} (h : LL M l f) : LL (mu M 3 l c 4 v) l f := by
  obtain ⟨hc, ha, hb, hp⟩ := h
  refine ⟨hc, ha, fun b hb' => ?_, hp⟩
  have q := hb b hb'
  by_cases z : b = c
  · subst z
    rw [upd_mu, upd_ne (by decide), upd_ne (by decide), upd_ne (by decide), upd_ne (by decide)]
    exact q
  · rw [mz_ne (fun y => z y.2.2)]
    exact q
theorem LL.li {c : Nat} (h : LL M l f) : LL (mu M 5 l c 4 v) l f := by
  obtain ⟨hc, ha, hb, hp⟩ := h
  refine ⟨hc, ha, hb, fun b hb' => ?_⟩
  have q := hp b hb'
  by_cases z : b = c
  · subst z
    rw [upd_mu, upd_ne (by decide), upd_ne (by decide), upd_ne (by decide), upd_ne (by decide)]
    exact q
  · rw [mz_ne (fun y => z y.2.2)]
    exact q
theorem LL.fr {M' : Mem} (h : LL M l f) (h1 : M' 1 l = M 1 l) (h3 : M' 3 l = M 3 l) (h5 : M' 5 l = M 5 l) : LL M' l f := by
  unfold LL LR at *
  rw [h1, h3, h5]
  exact h
theorem LL.f8 {M' : Mem} (h : LL M l f) (hF : ∀ k, k ≠ 8 → M' k = M k) : LL M' l f := h.fr (by rw [hF 1 (by decide)]) (by rw [hF 3 (by decide)]) (by rw [hF 5 (by decide)])
end W10
/-- a night of a land touches that land, and the stack -/
def Fn (l : Nat) (M M' : Mem) : Prop := ∀ k i, k ≠ 8 → ¬ ((k = 1 ∨ k = 3 ∨ k = 5) ∧ i = l) → M' k i = M k i
theorem Fn.rf {l : Nat} {M : Mem} : Fn l M M := fun _ _ _ _ => rfl
theorem Fn.tr {l : Nat} {M M' M'' : Mem} (h : Fn l M M') (h' : Fn l M' M'') : Fn l M M'' := fun k i a b => (h' k i a b).trans (h k i a b)
theorem Fn.of8 {l : Nat} {M M' : Mem} (h : ∀ k, k ≠ 8 → M' k = M k) : Fn l M M' := fun k i a _ => by rw [h k a]
theorem Fn.mu1 {l : Nat} {M : Mem} {k j s : Nat} {v : Int32} (h : k = 1 ∨ k = 3 ∨ k = 5) : Fn l M (mu M k l j s v) := fun k' i _ b => by
  unfold mu
  exact mr_out (fun q => b ⟨by rw [q.1]; exact h, q.2⟩)
theorem Fn.kd {l : Nat} {M M' : Mem} (h : Fn l M M') {k : Nat} (h8 : k ≠ 8) (h1 : k ≠ 1) (h3 : k ≠ 3) (h5 : k ≠ 5) : M' k = M k := by
  funext i
  exact h k i h8 (fun z => by omega)
theorem Fn.tx {l : Nat} {M M' : Mem} {f : FA} (h : Fn l M M') (t : TX M f) : TX M' f := t.cg TXE.rf (h.kd (by decide) (by decide) (by decide) (by decide)) (h.kd (by decide) (by decide) (by decide) (by decide))
theorem clamp_mx (v m : Int32) (hm : 0 ≤ m) : (if (0 : Int32) < (if v < m then v else m) then (if v < m then v else m) else 0) = clamp v 0 m := by
  unfold clamp
  by_cases h : v < 0
  · have h1 : v < m := Int32.lt_of_lt_of_le h hm
    rw [if_pos h, if_pos h1, if_neg (Int32.lt_asymm h)]
  · rw [if_neg h]
    have h0 : 0 ≤ v := Int32.not_lt.mp h
    by_cases h1 : v < m
    · rw [if_pos h1, if_neg (Int32.lt_asymm h1)]
      by_cases h2 : 0 < v
      · rw [if_pos h2]
      · rw [if_neg h2]
        exact Int32.le_antisymm h0 (Int32.not_lt.mp h2)
    · rw [if_neg h1]
      by_cases h2 : m < v
      · rw [if_pos h2]
        by_cases h3 : 0 < m
        · rw [if_pos h3]
        · rw [if_neg h3]
          exact Int32.le_antisymm hm (Int32.not_lt.mp h3)
      · rw [if_neg h2]
        have e : v = m := Int32.le_antisymm (Int32.not_lt.mp h2) (Int32.not_lt.mp h1)
        subst e
        by_cases h3 : 0 < v
        · rw [if_pos h3]
        · rw [if_neg h3]
          exact Int32.le_antisymm h0 (Int32.not_lt.mp h3)
