-- 40.pure11: the class's night: who lies where
theorem lieF_bit {f : FA} {g : Nat → Nat} {p b q : Nat} (h : ((lieF (f, g) p).2 b).testBit q = true) : (g b).testBit q = true ∨ (q = p ∧ f (53 + 4 * p) = 0) := by
  unfold lieF at h
  split at h
  · rename_i h0
    split at h
    · exact Or.inl h
    · change (updN g _ _ b).testBit q = true at h
      unfold updN at h
      split at h
      · rename_i z
        rw [Nat.testBit_or, Nat.testBit_two_pow] at h
        rcases Bool.or_eq_true _ _ ▸ h with h | h
        · exact Or.inl (by rw [z]; exact h)
        · exact Or.inr ⟨(of_decide_eq_true h).symm, h0⟩
      · exact Or.inl h
  · exact Or.inl h
theorem lieF_53 {f : FA} {g : Nat → Nat} {p q : Nat} (hp : p < 9) : (lieF (f, g) p).1 (53 + 4 * q) = f (53 + 4 * q) := by
  unfold lieF
  split
  · split
    · show upd _ _ _ _ = _
      rw [upd_ne (by omega), upd_ne (by omega)]
    · rfl
  · rfl
theorem lies_53 {f : FA} {q : Nat} : ∀ n, n ≤ 9 → (liesF f n).1 (53 + 4 * q) = f (53 + 4 * q) := by
  intro n
  induction n with
  | zero => intro _; rfl
  | succ n ih => intro hn; exact (lieF_53 (f := (liesF f n).1) (g := (liesF f n).2) (by omega)).trans (ih (by omega))
theorem lies_bit {f : FA} {b q : Nat} : ∀ n, n ≤ 9 → ((liesF f n).2 b).testBit q = true → q < n ∧ f (53 + 4 * q) = 0 := by
  intro n
  induction n with
  | zero => intro _ h; exact absurd h (by simp [liesF])
  | succ n ih =>
    intro hn h
    rcases lieF_bit (f := (liesF f n).1) (g := (liesF f n).2) h with z | ⟨z, z2⟩
    · have := ih (by omega) z
      exact ⟨by omega, this.2⟩
    · rw [lies_53 n (by omega)] at z2
      exact ⟨by omega, by rw [z]; exact z2⟩
theorem pcnt_top {m : Nat} {n : Nat} (h : ∀ p, n ≤ p → ¬ m.testBit p = true) : ∀ k, pcnt (n + k) m = pcnt n m := by
  intro k
  induction k with
  | zero => rfl
  | succ k ih =>
    show pcnt (n + k) m + (if m.testBit (n + k) then 1 else 0) = _
    rw [if_neg (h (n + k) (by omega)), ih]
    rfl
theorem pcnt_or {m p : Nat} (h : ¬ m.testBit p = true) : ∀ n, pcnt n (m ||| 2 ^ p) = pcnt n m + (if p < n then 1 else 0) := by
  intro n
  induction n with
  | zero => rfl
  | succ n ih =>
    unfold pcnt
    rw [ih, Nat.testBit_or, Nat.testBit_two_pow]
    by_cases z : p = n
    · subst z
      rw [if_neg h]
      simp
    · have z1 : decide (p = n) = false := decide_eq_false z
      rw [z1, Bool.or_false]
      by_cases y : p < n
      · rw [if_pos y, if_pos (show p < n + 1 by omega)]; omega
      · rw [if_neg y, if_neg (show ¬ p < n + 1 by omega)]; omega
section W11
variable {d l b p K : Nat} {M : Mem} {Q : PQ} {f : FA}
theorem sp_within {v m : Int32} (hd : 1 ≤ d) (hm : 0 ≤ m) (hQ : Q (some (.inl (clamp v 0 m))) M) : Td PR d 118 [.inl v, .inl m] M Q := by
  obtain ⟨e, rfl⟩ : ∃ e, d = e + 1 := ⟨d - 1, by omega⟩
  refine td_X9_within ?_
  intro S hS
  iterate 4 refine hS _ _ _ _ ?_
  refine hS _ _ _ _ ?_
  refine hS _ _ _ _ ?_
  exact qv hQ (clamp_mx v m hm).symm
theorem sp_hours (hd : 3 ≤ d) (hL : LL M l f) (hT : TX M f) (hp : p < cP f) (hQ : ∀ M', (∀ k, k ≠ 8 → M' k = M k) → Q (some (.inl (hoursF f p))) M') : Td PR d 12 [.inr (1, l, 0), .inr (5, l, p), .inl (countsF f 0 (cT f))] M Q := by
  generalize hW : hoursF f p = W at hQ
  unfold hoursF at hW
  obtain ⟨e, rfl⟩ : ∃ e, d = e + 1 := ⟨d - 1, by omega⟩
  refine td_X1_hours ?_
  intro S hS
  iterate 2 refine hS _ _ _ _ ?_
  refine And.intro (fun h1 => ?_) (fun h1 => ?_)
  · rcases counts_c (f := f) (ky := 0) (cT f) with z | ⟨t, t1, t2, t3⟩
    · exact absurd h1 (by rw [z]; decide)
    rw [t2] at hW ⊢
    have h14 := hT.1
    rw [if_neg (nI_pos (by omega)), nI_clamp (by omega)] at hW
    iterate 11 refine hS _ _ _ _ ?_
    rw [show gfv M 5 l p 0 = .inl (f (50 + 4 * p)) from congrArg Sum.inl (hL.town hp), show gfv M 5 l p 2 = .inl (f (52 + 4 * p)) from congrArg Sum.inl (hL.tired hp), show gfv M 1 l 0 10 = .inl (f 2) from congrArg Sum.inl hL.night]
    refine sp_presentIn (by omega) hL ?_
    refine hS _ _ _ _ ?_
    refine sp_value (by omega) hT t1 (fun M' hF => ?_)
    iterate 2 refine hS _ _ _ _ ?_
    refine sp_within (by omega) (by decide) ?_
    refine hS _ _ _ _ ?_
    exact qv (hQ _ hF) hW.symm
  · rw [if_pos (nle_lt h1)] at hW
    iterate 2 refine hS _ _ _ _ ?_
    exact qv (hQ _ (fun _ _ => rfl)) hW.symm
theorem sp_freeBedAt {g : Nat → Nat} {w : Int32} (hd : 2 ≤ d) (hL : LL M l f) (hG : ∀ b, b < cB f → M 3 l b 4 = nI (pcnt 9 (g b))) (hQ : Q (some (.inl (freeF f g w 0 (cB f)))) M) : Td PR d 21 [.inr (1, l, 0), .inl w] M Q := by
  have hb10 := hL.b10
  generalize hW : freeF f g w 0 (cB f) = W at hQ
  obtain ⟨e, rfl⟩ : ∃ e, d = e + 1 := ⟨d - 1, by omega⟩
  refine td_X1_freeBedAt ?_
  intro S hS
  iterate 2 refine hS _ _ _ _ ?_
  refine lp_up (T := fun i => freeF f g w i (cB f - i) = W → S 2 [some (.inr (1, l, 0)), some (.inl w), some (.inl (nI i))] [] M) (N := cB f) ?_ ?_ 0 (Nat.zero_le _) hW
  · intro hW
    rw [Nat.sub_self] at hW
    iterate 4 refine hS _ _ _ _ ?_
    refine And.intro (fun h7 => ?_) (fun h7 => ?_)
    · iterate 2 refine hS _ _ _ _ ?_
      exact qv hQ hW.symm
    · exact (lp_x hL.bc h7).elim
  · intro i hi ih hW
    have es : cB f - i = (cB f - (i + 1)) + 1 := by omega
    rw [es, freeF_s] at hW
    have hgi := hG i hi
    have e1 := hL.at hi
    have e0 := hL.kind hi
    iterate 4 refine hS _ _ _ _ ?_
    refine And.intro (fun h7 => ?_) (fun h7 => ?_)
    · exact (lp_s hL.bc hi (by omega) h7).elim
    · iterate 4 refine hS _ _ _ _ ?_
      refine ⟨(by first | assumption | exact vp_in_nI (by simp only [alen]; omega) (by decide)), ?_⟩
      try rw [nI_clamp (by omega)]
      iterate 3 refine hS _ _ _ _ ?_
      refine And.intro (fun h20 => ?_) (fun h20 => ?_)
      · rw [if_neg (fun z => h20 (e1.trans z.1))] at hW
        iterate 2 refine hS _ _ _ _ ?_
        have := ih hW
        rw [nI_succ] at this
        exact this
      · iterate 4 refine hS _ _ _ _ ?_
        refine ⟨(by first | assumption | exact vp_in_nI (by simp only [alen]; omega) (by decide)), ?_⟩
        try rw [nI_clamp (by omega)]
        iterate 5 refine hS _ _ _ _ ?_
        refine ⟨(by first | assumption | exact vp_in_nI (by simp only [alen]; omega) (by decide)), ?_⟩
        try rw [nI_clamp (by omega)]
        refine hS _ _ _ _ ?_
        refine sp_wide (by omega) ?_
        refine hS _ _ _ _ ?_
        refine And.intro (fun h41 => ?_) (fun h41 => ?_)
        · have h41' : wideB f i ≤ nI (pcnt 9 (g i)) := by unfold wideB; rw [← hgi, ← e0]; exact h41
          rw [if_neg (fun z => Int32.not_lt.mpr h41' z.2)] at hW
          iterate 2 refine hS _ _ _ _ ?_
          have := ih hW
          rw [nI_succ] at this
          exact this
        · have h41' : nI (pcnt 9 (g i)) < wideB f i := by unfold wideB; rw [← hgi, ← e0]; exact nle_lt h41
          rw [if_pos ⟨e1.symm.trans h20, h41'⟩] at hW
          iterate 2 refine hS _ _ _ _ ?_
          exact qv hQ hW.symm
end W11
