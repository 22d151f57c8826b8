-- 70.pure41: a draft grows in the class
section W41
variable {d x m : Nat} {M : Mem} {Q : PQ}
theorem sp_begin {v : Int32} (hd : 1 ≤ d) (hQ : Q none (mu (mu (mu M 9 x 0 0 v) 9 x 0 2 0) 9 x 0 3 0)) : Td PR d 56 [.inr (9, x, 0), .inl v] M Q := by
  obtain ⟨e, rfl⟩ : ∃ e, d = e + 1 := ⟨d - 1, by omega⟩
  refine td_X7_begin ?_
  intro S hS
  iterate 10 refine hS _ _ _ _ ?_
  exact hQ
theorem sp_add {v : Int32} (hd : 1 ≤ d) (hm : m < 96) (em : M 9 x 0 2 = nI m) (hQ : Q none (mu (mu M 10 x 0 m v) 9 x 0 2 (nI (m + 1)))) : Td PR d 59 [.inr (9, x, 0), .inl v] M Q := by
  have e2 : mu M 10 x 0 m v 9 x 0 2 + 1 = nI (m + 1) := by rw [mz_k (by decide), em, nI_succ]
  obtain ⟨e, rfl⟩ : ∃ e, d = e + 1 := ⟨d - 1, by omega⟩
  refine td_X7_add ?_
  intro S hS
  iterate 6 refine hS _ _ _ _ ?_
  refine And.intro (fun h9 => ?_) (fun h9 => ?_)
  · exact absurd (show nI 96 ≤ M 9 x 0 2 from h9) (by rw [em]; exact fun z => nI_ge hm (by decide) z)
  · iterate 6 refine hS _ _ _ _ ?_
    rw [show gfv M 9 x 0 2 = .inl (nI m) from congrArg Sum.inl em]
    refine ⟨(by first | assumption | exact vp_in_nI (by simp only [alen]; omega) (by decide)), ?_⟩
    try rw [nI_clamp (by omega)]
    iterate 7 refine hS _ _ _ _ ?_
    rw [← e2] at hQ
    exact hQ
theorem sp_addSign {v : Int32} (hd : 2 ≤ d) (hm : m < 96) (em : M 9 x 0 2 = nI m) (hQ : Q none (mu (mu M 10 x 0 m (-v)) 9 x 0 2 (nI (m + 1)))) : Td PR d 58 [.inr (9, x, 0), .inl v] M Q := by
  obtain ⟨e, rfl⟩ : ∃ e, d = e + 1 := ⟨d - 1, by omega⟩
  refine td_X7_addSign ?_
  intro S hS
  iterate 4 refine hS _ _ _ _ ?_
  refine sp_add (by omega) hm em ?_
  refine hS _ _ _ _ ?_
  exact hQ
theorem sp_addLeaf {v : Int32} {n : Nat} (hd : 2 ≤ d) (hm : m < 96) (em : M 9 x 0 2 = nI m) (e3 : M 9 x 0 3 = nI n) (hQ : Q none (mu (mu (mu M 9 x 0 3 (nI (n + 1))) 10 x 0 m v) 9 x 0 2 (nI (m + 1)))) : Td PR d 57 [.inr (9, x, 0), .inl v] M Q := by
  have e2 : M 9 x 0 3 + 1 = nI (n + 1) := by rw [e3, nI_succ]
  rw [← e2] at hQ
  obtain ⟨e, rfl⟩ : ∃ e, d = e + 1 := ⟨d - 1, by omega⟩
  refine td_X7_addLeaf ?_
  intro S hS
  iterate 9 refine hS _ _ _ _ ?_
  refine sp_add (by omega) hm ((mz_sl (by decide)).trans em) ?_
  refine hS _ _ _ _ ?_
  exact hQ
end W41
