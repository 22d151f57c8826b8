-- 71.pure42: the reference's small ones for a text
def rkN (k : Nat) : Nat := if k = 1 then 1 else if k = 2 then 2 else if k ≤ 5 then 3 else if k ≤ 7 then 4 else if k ≤ 9 then 5 else 6
def rnkV (x : Int32) : Int32 := if x = -1 then 1 else if x = -2 then 2 else if x < -5 then (if x < -7 then (if x < -9 then 6 else 5) else 4) else 3
theorem rnk_N : ∀ k, k < 11 → 1 ≤ k → rnkV (- nI k) = nI (rkN k) := by decide
def sgV (v : Int32) : Int32 := if v = 38 then -2 else if v = 42 then -8 else if v = 43 then -6 else if v = 45 then -7 else if v = 47 then -9 else if v = 60 then -3 else if v = 61 then -4 else if v = 62 then -5 else if v = 124 then -1 else 0
section W42
variable {d n : Nat} {M : Mem} {Q : PQ} {f : FA} {T : TK}
theorem sm_rank {k : Nat} (hd : 1 ≤ d) (h1 : 1 ≤ k) (h2 : k ≤ 10) (hQ : Q (some (.inl (nI (rkN k)))) M) : Td PR d 189 [.inl (- nI k)] M Q := by
  rw [← rnk_N k (by omega) h1] at hQ
  unfold rnkV at hQ
  generalize - nI k = x at *
  obtain ⟨e, rfl⟩ : ∃ e, d = e + 1 := ⟨d - 1, by omega⟩
  refine td_X10_rank ?_
  intro S hS
  iterate 3 refine hS _ _ _ _ ?_
  refine And.intro (fun h2 => ?_) (fun h2 => ?_)
  · rw [if_neg h2] at hQ
    iterate 3 refine hS _ _ _ _ ?_
    refine And.intro (fun h12 => ?_) (fun h12 => ?_)
    · rw [if_neg h12] at hQ
      iterate 3 refine hS _ _ _ _ ?_
      refine And.intro (fun h22 => ?_) (fun h22 => ?_)
      · rw [if_pos h22] at hQ
        iterate 3 refine hS _ _ _ _ ?_
        refine And.intro (fun h32 => ?_) (fun h32 => ?_)
        · rw [if_pos h32] at hQ
          iterate 3 refine hS _ _ _ _ ?_
          refine And.intro (fun h42 => ?_) (fun h42 => ?_)
          · rw [if_pos h42] at hQ
            iterate 2 refine hS _ _ _ _ ?_
            exact hQ
          · rw [if_neg h42] at hQ
            iterate 3 refine hS _ _ _ _ ?_
            exact hQ
        · rw [if_neg h32] at hQ
          iterate 3 refine hS _ _ _ _ ?_
          exact hQ
      · rw [if_neg h22] at hQ
        iterate 3 refine hS _ _ _ _ ?_
        exact hQ
    · rw [if_pos h12] at hQ
      iterate 3 refine hS _ _ _ _ ?_
      exact hQ
  · rw [if_pos h2] at hQ
    iterate 3 refine hS _ _ _ _ ?_
    exact hQ
theorem ix_3 {v : Int32} : ixF 3 v 0 (sLen 3) = if (116 : Int32) = v then 0 else if (110 : Int32) = v then 1 else if (119 : Int32) = v then 2 else -1 := rfl
theorem ix_4 {v : Int32} : ixF 4 v 0 (sLen 4) = if (115 : Int32) = v then 0 else if (97 : Int32) = v then 1 else -1 := rfl
theorem ix_5 {v : Int32} : ixF 5 v 0 (sLen 5) = if (102 : Int32) = v then 0 else if (111 : Int32) = v then 1 else -1 := rfl
theorem sm_nameOf {v : Int32} {ky : Nat} (hd : 1 ≤ d) (hk : ky < 3) (ek : M 30 0 0 16 = nI ky) (hQ : Q (some (.inl (ixF (3 + ky) v 0 (sLen (3 + ky))))) M) : Td PR d 188 [.inr (30, 0, 0), .inl v] M Q := by
  obtain ⟨e, rfl⟩ : ∃ e, d = e + 1 := ⟨d - 1, by omega⟩
  refine td_X10_nameOf ?_
  intro S hS
  iterate 3 refine hS _ _ _ _ ?_
  refine And.intro (fun h4_0 => ?_) (fun h4_0 => ?_)
  · rw [ek] at h4_0
    have hz := (nI_eq (b := 0) (by omega) (by decide)).mp h4_0
    subst hz
    replace hQ : Q (some (.inl (ixF 3 v 0 (sLen 3)))) M := hQ
    rw [ix_3] at hQ
    iterate 3 refine hS _ _ _ _ ?_
    refine And.intro (fun h35 => ?_) (fun h35 => ?_)
    · rw [if_neg (fun z => h35 (Eq.symm z))] at hQ
      iterate 3 refine hS _ _ _ _ ?_
      refine And.intro (fun h45 => ?_) (fun h45 => ?_)
      · rw [if_neg (fun z => h45 (Eq.symm z))] at hQ
        iterate 3 refine hS _ _ _ _ ?_
        refine And.intro (fun h55 => ?_) (fun h55 => ?_)
        · rw [if_neg (fun z => h55 (Eq.symm z))] at hQ
          iterate 2 refine hS _ _ _ _ ?_
          exact hQ
        · rw [if_pos (Eq.symm h55)] at hQ
          iterate 3 refine hS _ _ _ _ ?_
          exact hQ
      · rw [if_pos (Eq.symm h45)] at hQ
        iterate 3 refine hS _ _ _ _ ?_
        exact hQ
    · rw [if_pos (Eq.symm h35)] at hQ
      iterate 3 refine hS _ _ _ _ ?_
      exact hQ
  refine And.intro (fun h4_1 => ?_) (fun h4_1 => ?_)
  · rw [ek] at h4_1
    have hz := (nI_eq (b := 1) (by omega) (by decide)).mp h4_1
    subst hz
    replace hQ : Q (some (.inl (ixF 4 v 0 (sLen 4)))) M := hQ
    rw [ix_4] at hQ
    iterate 3 refine hS _ _ _ _ ?_
    refine And.intro (fun h67 => ?_) (fun h67 => ?_)
    · rw [if_neg (fun z => h67 (Eq.symm z))] at hQ
      iterate 3 refine hS _ _ _ _ ?_
      refine And.intro (fun h77 => ?_) (fun h77 => ?_)
      · rw [if_neg (fun z => h77 (Eq.symm z))] at hQ
        iterate 2 refine hS _ _ _ _ ?_
        exact hQ
      · rw [if_pos (Eq.symm h77)] at hQ
        iterate 3 refine hS _ _ _ _ ?_
        exact hQ
    · rw [if_pos (Eq.symm h67)] at hQ
      iterate 3 refine hS _ _ _ _ ?_
      exact hQ
  rw [ek] at h4_0 h4_1
  obtain rfl : ky = 2 := by
    have a0 : ky ≠ 0 := fun z => h4_0 (congrArg nI z)
    have a1 : ky ≠ 1 := fun z => h4_1 (congrArg nI z)
    omega
  replace hQ : Q (some (.inl (ixF 5 v 0 (sLen 5)))) M := hQ
  rw [ix_5] at hQ
  iterate 3 refine hS _ _ _ _ ?_
  refine And.intro (fun h89 => ?_) (fun h89 => ?_)
  · rw [if_neg (fun z => h89 (Eq.symm z))] at hQ
    iterate 3 refine hS _ _ _ _ ?_
    refine And.intro (fun h99 => ?_) (fun h99 => ?_)
    · rw [if_neg (fun z => h99 (Eq.symm z))] at hQ
      iterate 2 refine hS _ _ _ _ ?_
      exact hQ
    · rw [if_pos (Eq.symm h99)] at hQ
      iterate 3 refine hS _ _ _ _ ?_
      exact hQ
  · rw [if_pos (Eq.symm h89)] at hQ
    iterate 3 refine hS _ _ _ _ ?_
    exact hQ
theorem sm_signHere (hd : 1 ≤ d) (hT : RT M n f T) (hk4 : T.2.2.1 ≤ 4) (hQ : Q (some (.inl (if T.2.2.1 = 1 then sgV T.2.2.2 else 0))) M) : Td PR d 191 [.inr (30, 0, 0)] M Q := by
  obtain ⟨e1, hf, e2, e3, e4, e5⟩ := hT
  have hr : rkT T.2.2.1 = 3 ↔ T.2.2.1 = 1 := by
    have : ∀ k, k ≤ 4 → (rkT k = 3 ↔ k = 1) := by decide
    exact this _ hk4
  obtain ⟨e, rfl⟩ : ∃ e, d = e + 1 := ⟨d - 1, by omega⟩
  refine td_X10_signHere ?_
  intro S hS
  iterate 4 refine hS _ _ _ _ ?_
  refine And.intro (fun h5 => ?_) (fun h5 => ?_)
  · rw [e4, hr] at h5
    rw [if_pos h5] at hQ
    have e5' := e5 (Or.inl h5)
    unfold sgV at hQ
    rw [← e5'] at hQ
    iterate 3 refine hS _ _ _ _ ?_
    refine And.intro (fun h14_38 => ?_) (fun h14_38 => ?_)
    · rw [if_pos h14_38] at hQ
      iterate 2 refine hS _ _ _ _ ?_
      exact hQ
    refine And.intro (fun h14_42 => ?_) (fun h14_42 => ?_)
    · rw [if_neg h14_38, if_pos h14_42] at hQ
      iterate 2 refine hS _ _ _ _ ?_
      exact hQ
    refine And.intro (fun h14_43 => ?_) (fun h14_43 => ?_)
    · rw [if_neg h14_38, if_neg h14_42, if_pos h14_43] at hQ
      iterate 2 refine hS _ _ _ _ ?_
      exact hQ
    refine And.intro (fun h14_45 => ?_) (fun h14_45 => ?_)
    · rw [if_neg h14_38, if_neg h14_42, if_neg h14_43, if_pos h14_45] at hQ
      iterate 2 refine hS _ _ _ _ ?_
      exact hQ
    refine And.intro (fun h14_47 => ?_) (fun h14_47 => ?_)
    · rw [if_neg h14_38, if_neg h14_42, if_neg h14_43, if_neg h14_45, if_pos h14_47] at hQ
      iterate 2 refine hS _ _ _ _ ?_
      exact hQ
    refine And.intro (fun h14_60 => ?_) (fun h14_60 => ?_)
    · rw [if_neg h14_38, if_neg h14_42, if_neg h14_43, if_neg h14_45, if_neg h14_47, if_pos h14_60] at hQ
      iterate 2 refine hS _ _ _ _ ?_
      exact hQ
    refine And.intro (fun h14_61 => ?_) (fun h14_61 => ?_)
    · rw [if_neg h14_38, if_neg h14_42, if_neg h14_43, if_neg h14_45, if_neg h14_47, if_neg h14_60, if_pos h14_61] at hQ
      iterate 2 refine hS _ _ _ _ ?_
      exact hQ
    refine And.intro (fun h14_62 => ?_) (fun h14_62 => ?_)
    · rw [if_neg h14_38, if_neg h14_42, if_neg h14_43, if_neg h14_45, if_neg h14_47, if_neg h14_60, if_neg h14_61, if_pos h14_62] at hQ
      iterate 2 refine hS _ _ _ _ ?_
      exact hQ
    refine And.intro (fun h14_124 => ?_) (fun h14_124 => ?_)
    · rw [if_neg h14_38, if_neg h14_42, if_neg h14_43, if_neg h14_45, if_neg h14_47, if_neg h14_60, if_neg h14_61, if_neg h14_62, if_pos h14_124] at hQ
      iterate 2 refine hS _ _ _ _ ?_
      exact hQ
    rw [if_neg h14_38, if_neg h14_42, if_neg h14_43, if_neg h14_45, if_neg h14_47, if_neg h14_60, if_neg h14_61, if_neg h14_62, if_neg h14_124] at hQ
    iterate 2 refine hS _ _ _ _ ?_
    exact hQ
  · rw [e4, hr] at h5
    rw [if_neg h5] at hQ
    iterate 2 refine hS _ _ _ _ ?_
    exact hQ
end W42
