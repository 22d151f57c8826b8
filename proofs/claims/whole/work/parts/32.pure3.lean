-- 32.pure3: reading behind a write; the class's small methods
theorem mz_at {M : Mem} {k i j s : Nat} {v : Int32} : mu M k i j s v k i j s = v := by simp [mu, mr, upd]
theorem mz_sl {M : Mem} {k i j s t : Nat} {v : Int32} (h : t ≠ s) : mu M k i j s v k i j t = M k i j t := by simp [mu, mr, upd, h]
theorem mz_ne {M : Mem} {k i j s k' i' j' : Nat} {v : Int32} (h : ¬ (k' = k ∧ i' = i ∧ j' = j)) : mu M k i j s v k' i' j' = M k' i' j' := mr_ne h
theorem mz_k {M : Mem} {k i j s k' : Nat} {v : Int32} (h : k' ≠ k) : mu M k i j s v k' = M k' := mr_k h
section W3
variable {d l b p : Nat} {M : Mem} {Q : PQ} {f : FA}
theorem sp_draw (hd : 1 ≤ d) (hQ : Q (some (.inl (ushr8 (M 1 l 0 11 * 1103515245 + 12345)))) (mu M 1 l 0 11 (M 1 l 0 11 * 1103515245 + 12345))) : Td PR d 10 [.inr (1, l, 0)] M Q := by
  obtain ⟨e, rfl⟩ : ∃ e, d = e + 1 := ⟨d - 1, by omega⟩
  refine td_X1_draw ?_
  intro S hS
  iterate 13 refine hS _ _ _ _ ?_
  have e1 : mu M 1 l 0 11 (M 1 l 0 11 * 1103515245 + 12345) 1 l 0 11 = M 1 l 0 11 * 1103515245 + 12345 := mz_at
  rw [← e1] at hQ
  rw [e1] at hQ
  show Q (some (.inl (ushr8 (mu M 1 l 0 11 (M 1 l 0 11 * 1103515245 + 12345) 1 l 0 11)))) _
  rw [e1]
  exact hQ
theorem cB_lt {n : Nat} (h : f 1 = nI n) (hn : n < 2 ^ 31) : cB f = n := by unfold cB; rw [h]; exact nI_clamp hn
theorem cP_lt {n : Nat} (h : f 4 = nI n) (hn : n < 2 ^ 31) : cP f = n := by unfold cP; rw [h]; exact nI_clamp hn
/-- counts in range -/
def CN (f : FA) : Prop := f 1 = nI (cB f) ∧ cB f ≤ 10 ∧ f 4 = nI (cP f) ∧ cP f ≤ 9 ∧ f 9 = nI (cT f) ∧ cT f ≤ 14
theorem sp_presentIn {town : Int32} (hd : 1 ≤ d) (hC : CN f) (hL : LR M l f) (hQ : Q (some (.inl (thereF f town (cP f)))) M) : Td PR d 13 [.inr (1, l, 0), .inl town] M Q := by
  obtain ⟨e, rfl⟩ : ∃ e, d = e + 1 := ⟨d - 1, by omega⟩
  refine td_X1_presentIn ?_
  intro S hS
  obtain ⟨c1, c2, c3, c4, c5, c6⟩ := hC
  have e4 : M 1 l 0 4 = nI (cP f) := hL.1.2.2.2.1.trans c3
  have loop : ∀ n i, n = cP f - i → i ≤ cP f → S 4 [some (.inr (1, l, 0)), some (.inl town), some (.inl (thereF f town i)), some (.inl (nI i))] [] M := by
    intro n
    induction n with
    | zero =>
      intro i hn hi
      obtain rfl : i = cP f := by omega
      iterate 4 refine hS _ _ _ _ ?_
      refine And.intro (fun hc => ?_) (fun hc => ?_)
      · iterate 2 refine hS _ _ _ _ ?_
        exact hQ
      · exact absurd (by show M 1 l 0 4 ≤ nI (cP f); rw [e4]; exact nI_le (Nat.le_refl _) (by omega)) hc
    | succ n ih =>
      intro i hn hi
      have hlt : i < cP f := by omega
      obtain ⟨p0, p1, p2, p3⟩ := hL.2.2 i hlt
      iterate 4 refine hS _ _ _ _ ?_
      refine And.intro (fun hc => ?_) (fun hc => ?_)
      · exact absurd (show M 1 l 0 4 ≤ nI i from hc) (by rw [e4]; exact nI_ge hlt (by omega))
      · have h5 := ih (i + 1) (by omega) (by omega)
        rw [nI_succ] at h5
        iterate 4 refine hS _ _ _ _ ?_
        refine ⟨nI_in (N := 9) (by omega) (by omega), ?_⟩
        iterate 3 refine hS _ _ _ _ ?_
        rw [nI_clamp (by omega)]
        have hq : thereF f town (i + 1) = thereF f town i + (if f (50 + 4 * i) = town ∧ f (53 + 4 * i) = 0 then 1 else 0) := rfl
        refine And.intro (fun h1 => ?_) (fun h1 => ?_)
        · have h1 : ¬ M 5 l i 0 = town := h1
          iterate 2 refine hS _ _ _ _ ?_
          rw [hq, if_neg (fun z => h1 (p0.trans z.1))] at h5
          have : thereF f town i + 0 = thereF f town i := by simp
          rw [this] at h5
          exact h5
        · have h1 : M 5 l i 0 = town := h1
          iterate 4 refine hS _ _ _ _ ?_
          refine ⟨nI_in (N := 9) (by omega) (by omega), ?_⟩
          iterate 2 refine hS _ _ _ _ ?_
          rw [nI_clamp (by omega)]
          refine And.intro (fun h2 => ?_) (fun h2 => ?_)
          · have h2 : ¬ M 5 l i 3 = 0 := h2
            iterate 2 refine hS _ _ _ _ ?_
            rw [hq, if_neg (fun z => h2 (p3.trans z.2))] at h5
            have : thereF f town i + 0 = thereF f town i := by simp
            rw [this] at h5
            exact h5
          · have h2 : M 5 l i 3 = 0 := h2
            iterate 3 refine hS _ _ _ _ ?_
            rw [hq, if_pos ⟨p0.symm.trans h1, p3.symm.trans h2⟩] at h5
            exact h5
  iterate 4 refine hS _ _ _ _ ?_
  exact loop _ 0 rfl (Nat.zero_le _)
end W3
