-- 34.pure5: the reference's small methods
section W5
variable {d b p : Nat} {M : Mem} {Q : PQ}
theorem sm_in {v x y : Int32} (hd : 1 ≤ d) (hQ : Q (some (.inl (bI (¬ v < x ∧ ¬ y < v)))) M) : Td PR d 120 [.inl v, .inl x, .inl y] M Q := by
  obtain ⟨e, rfl⟩ : ∃ e, d = e + 1 := ⟨d - 1, by omega⟩
  refine td_X10_in ?_
  intro S hS
  iterate 3 refine hS _ _ _ _ ?_
  refine And.intro (fun h2 => ?_) (fun h2 => ?_)
  · iterate 2 refine hS _ _ _ _ ?_
    refine ⟨rfl, ?_⟩
    first | (refine qv hQ (bI_p ?_); constructor <;> assumption) | (refine qv hQ (bI_n ?_); intro z; first | exact z.1 (by assumption) | exact z.2 (by assumption))
  · iterate 3 refine hS _ _ _ _ ?_
    refine And.intro (fun h7 => ?_) (fun h7 => ?_)
    · iterate 2 refine hS _ _ _ _ ?_
      refine ⟨rfl, ?_⟩
      first | (refine qv hQ (bI_p ?_); constructor <;> assumption) | (refine qv hQ (bI_n ?_); intro z; first | exact z.1 (by assumption) | exact z.2 (by assumption))
    · iterate 3 refine hS _ _ _ _ ?_
      refine ⟨rfl, ?_⟩
      first | (refine qv hQ (bI_p ?_); constructor <;> assumption) | (refine qv hQ (bI_n ?_); intro z; first | exact z.1 (by assumption) | exact z.2 (by assumption))
theorem sm_within {v x y : Int32} (hd : 1 ≤ d) (hQ : Q (some (.inl (clamp v x y))) M) : Td PR d 121 [.inl v, .inl x, .inl y] M Q := by
  obtain ⟨e, rfl⟩ : ∃ e, d = e + 1 := ⟨d - 1, by omega⟩
  refine td_X10_within ?_
  intro S hS
  iterate 3 refine hS _ _ _ _ ?_
  refine And.intro (fun h2 => ?_) (fun h2 => ?_)
  · have h2' := Int32.not_lt.mpr h2
    iterate 3 refine hS _ _ _ _ ?_
    refine And.intro (fun h11 => ?_) (fun h11 => ?_)
    · have h11' := Int32.not_lt.mpr h11
      iterate 2 refine hS _ _ _ _ ?_
      refine qv hQ ?_
      unfold clamp
      simp only [*, if_true, if_false]
    · have h11' := Int32.not_le.mp h11
      iterate 3 refine hS _ _ _ _ ?_
      refine qv hQ ?_
      unfold clamp
      simp only [*, if_true, if_false]
  · have h2' := Int32.not_le.mp h2
    iterate 3 refine hS _ _ _ _ ?_
    refine qv hQ ?_
    unfold clamp
    simp only [*, if_true, if_false]
theorem sm_of0 (hd : 1 ≤ d) (hb : b < 10) (hQ : Q (some (.inl (M 31 0 0 (10 + 4 * b)))) M) : Td PR d 126 [.inr (30, 0, 0), .inl (nI b), .inl 0] M Q := by
  have ix : (10 : Int32) + 4 * nI b + 0 = nI (10 + 4 * b) := by
    show nI 10 + nI 4 * nI b + nI 0 = _
    rw [nI_mul, nI_add, nI_add]; exact congrArg nI (by omega)
  obtain ⟨e, rfl⟩ : ∃ e, d = e + 1 := ⟨d - 1, by omega⟩
  refine td_X10_of ?_
  intro S hS
  iterate 10 refine hS _ _ _ _ ?_
  rw [ix]
  refine ⟨(by first | assumption | exact vp_in_nI (by simp only [alen]; omega) (by decide)), ?_⟩
  try rw [nI_clamp (by omega)]
  refine hS _ _ _ _ ?_
  exact hQ
theorem sm_of1 (hd : 1 ≤ d) (hb : b < 10) (hQ : Q (some (.inl (M 31 0 0 (11 + 4 * b)))) M) : Td PR d 126 [.inr (30, 0, 0), .inl (nI b), .inl 1] M Q := by
  have ix : (10 : Int32) + 4 * nI b + 1 = nI (11 + 4 * b) := by
    show nI 10 + nI 4 * nI b + nI 1 = _
    rw [nI_mul, nI_add, nI_add]; exact congrArg nI (by omega)
  obtain ⟨e, rfl⟩ : ∃ e, d = e + 1 := ⟨d - 1, by omega⟩
  refine td_X10_of ?_
  intro S hS
  iterate 10 refine hS _ _ _ _ ?_
  rw [ix]
  refine ⟨(by first | assumption | exact vp_in_nI (by simp only [alen]; omega) (by decide)), ?_⟩
  try rw [nI_clamp (by omega)]
  refine hS _ _ _ _ ?_
  exact hQ
theorem sm_of2 (hd : 1 ≤ d) (hb : b < 10) (hQ : Q (some (.inl (M 31 0 0 (12 + 4 * b)))) M) : Td PR d 126 [.inr (30, 0, 0), .inl (nI b), .inl 2] M Q := by
  have ix : (10 : Int32) + 4 * nI b + 2 = nI (12 + 4 * b) := by
    show nI 10 + nI 4 * nI b + nI 2 = _
    rw [nI_mul, nI_add, nI_add]; exact congrArg nI (by omega)
  obtain ⟨e, rfl⟩ : ∃ e, d = e + 1 := ⟨d - 1, by omega⟩
  refine td_X10_of ?_
  intro S hS
  iterate 10 refine hS _ _ _ _ ?_
  rw [ix]
  refine ⟨(by first | assumption | exact vp_in_nI (by simp only [alen]; omega) (by decide)), ?_⟩
  try rw [nI_clamp (by omega)]
  refine hS _ _ _ _ ?_
  exact hQ
theorem sm_of3 (hd : 1 ≤ d) (hb : b < 10) (hQ : Q (some (.inl (M 31 0 0 (13 + 4 * b)))) M) : Td PR d 126 [.inr (30, 0, 0), .inl (nI b), .inl 3] M Q := by
  have ix : (10 : Int32) + 4 * nI b + 3 = nI (13 + 4 * b) := by
    show nI 10 + nI 4 * nI b + nI 3 = _
    rw [nI_mul, nI_add, nI_add]; exact congrArg nI (by omega)
  obtain ⟨e, rfl⟩ : ∃ e, d = e + 1 := ⟨d - 1, by omega⟩
  refine td_X10_of ?_
  intro S hS
  iterate 10 refine hS _ _ _ _ ?_
  rw [ix]
  refine ⟨(by first | assumption | exact vp_in_nI (by simp only [alen]; omega) (by decide)), ?_⟩
  try rw [nI_clamp (by omega)]
  refine hS _ _ _ _ ?_
  exact hQ
theorem sm_by0 (hd : 1 ≤ d) (hb : b < 10) (hQ : Q (some (.inl (M 31 0 0 (50 + 4 * b)))) M) : Td PR d 128 [.inr (30, 0, 0), .inl (nI b), .inl 0] M Q := by
  have ix : (50 : Int32) + 4 * nI b + 0 = nI (50 + 4 * b) := by
    show nI 50 + nI 4 * nI b + nI 0 = _
    rw [nI_mul, nI_add, nI_add]; exact congrArg nI (by omega)
  obtain ⟨e, rfl⟩ : ∃ e, d = e + 1 := ⟨d - 1, by omega⟩
  refine td_X10_by ?_
  intro S hS
  iterate 10 refine hS _ _ _ _ ?_
  rw [ix]
  refine ⟨(by first | assumption | exact vp_in_nI (by simp only [alen]; omega) (by decide)), ?_⟩
  try rw [nI_clamp (by omega)]
  refine hS _ _ _ _ ?_
  exact hQ
theorem sm_by1 (hd : 1 ≤ d) (hb : b < 10) (hQ : Q (some (.inl (M 31 0 0 (51 + 4 * b)))) M) : Td PR d 128 [.inr (30, 0, 0), .inl (nI b), .inl 1] M Q := by
  have ix : (50 : Int32) + 4 * nI b + 1 = nI (51 + 4 * b) := by
    show nI 50 + nI 4 * nI b + nI 1 = _
    rw [nI_mul, nI_add, nI_add]; exact congrArg nI (by omega)
  obtain ⟨e, rfl⟩ : ∃ e, d = e + 1 := ⟨d - 1, by omega⟩
  refine td_X10_by ?_
  intro S hS
  iterate 10 refine hS _ _ _ _ ?_
  rw [ix]
  refine ⟨(by first | assumption | exact vp_in_nI (by simp only [alen]; omega) (by decide)), ?_⟩
  try rw [nI_clamp (by omega)]
  refine hS _ _ _ _ ?_
  exact hQ
theorem sm_by2 (hd : 1 ≤ d) (hb : b < 10) (hQ : Q (some (.inl (M 31 0 0 (52 + 4 * b)))) M) : Td PR d 128 [.inr (30, 0, 0), .inl (nI b), .inl 2] M Q := by
  have ix : (50 : Int32) + 4 * nI b + 2 = nI (52 + 4 * b) := by
    show nI 50 + nI 4 * nI b + nI 2 = _
    rw [nI_mul, nI_add, nI_add]; exact congrArg nI (by omega)
  obtain ⟨e, rfl⟩ : ∃ e, d = e + 1 := ⟨d - 1, by omega⟩
  refine td_X10_by ?_
  intro S hS
  iterate 10 refine hS _ _ _ _ ?_
  rw [ix]
  refine ⟨(by first | assumption | exact vp_in_nI (by simp only [alen]; omega) (by decide)), ?_⟩
  try rw [nI_clamp (by omega)]
  refine hS _ _ _ _ ?_
  exact hQ
theorem sm_by3 (hd : 1 ≤ d) (hb : b < 10) (hQ : Q (some (.inl (M 31 0 0 (53 + 4 * b)))) M) : Td PR d 128 [.inr (30, 0, 0), .inl (nI b), .inl 3] M Q := by
  have ix : (50 : Int32) + 4 * nI b + 3 = nI (53 + 4 * b) := by
    show nI 50 + nI 4 * nI b + nI 3 = _
    rw [nI_mul, nI_add, nI_add]; exact congrArg nI (by omega)
  obtain ⟨e, rfl⟩ : ∃ e, d = e + 1 := ⟨d - 1, by omega⟩
  refine td_X10_by ?_
  intro S hS
  iterate 10 refine hS _ _ _ _ ?_
  rw [ix]
  refine ⟨(by first | assumption | exact vp_in_nI (by simp only [alen]; omega) (by decide)), ?_⟩
  try rw [nI_clamp (by omega)]
  refine hS _ _ _ _ ?_
  exact hQ
theorem sm_put0 {v : Int32} (hd : 1 ≤ d) (hb : b < 10) (hQ : Q none (mu M 31 0 0 (10 + 4 * b) v)) : Td PR d 127 [.inr (30, 0, 0), .inl (nI b), .inl 0, .inl v] M Q := by
  have ix : (10 : Int32) + 4 * nI b + 0 = nI (10 + 4 * b) := by
    show nI 10 + nI 4 * nI b + nI 0 = _
    rw [nI_mul, nI_add, nI_add]; exact congrArg nI (by omega)
  obtain ⟨e, rfl⟩ : ∃ e, d = e + 1 := ⟨d - 1, by omega⟩
  refine td_X10_put ?_
  intro S hS
  iterate 11 refine hS _ _ _ _ ?_
  rw [ix]
  refine ⟨(by first | assumption | exact vp_in_nI (by simp only [alen]; omega) (by decide)), ?_⟩
  try rw [nI_clamp (by omega)]
  refine hS _ _ _ _ ?_
  exact hQ
theorem sm_put1 {v : Int32} (hd : 1 ≤ d) (hb : b < 10) (hQ : Q none (mu M 31 0 0 (11 + 4 * b) v)) : Td PR d 127 [.inr (30, 0, 0), .inl (nI b), .inl 1, .inl v] M Q := by
  have ix : (10 : Int32) + 4 * nI b + 1 = nI (11 + 4 * b) := by
    show nI 10 + nI 4 * nI b + nI 1 = _
    rw [nI_mul, nI_add, nI_add]; exact congrArg nI (by omega)
  obtain ⟨e, rfl⟩ : ∃ e, d = e + 1 := ⟨d - 1, by omega⟩
  refine td_X10_put ?_
  intro S hS
  iterate 11 refine hS _ _ _ _ ?_
  rw [ix]
  refine ⟨(by first | assumption | exact vp_in_nI (by simp only [alen]; omega) (by decide)), ?_⟩
  try rw [nI_clamp (by omega)]
  refine hS _ _ _ _ ?_
  exact hQ
theorem sm_put2 {v : Int32} (hd : 1 ≤ d) (hb : b < 10) (hQ : Q none (mu M 31 0 0 (12 + 4 * b) v)) : Td PR d 127 [.inr (30, 0, 0), .inl (nI b), .inl 2, .inl v] M Q := by
  have ix : (10 : Int32) + 4 * nI b + 2 = nI (12 + 4 * b) := by
    show nI 10 + nI 4 * nI b + nI 2 = _
    rw [nI_mul, nI_add, nI_add]; exact congrArg nI (by omega)
  obtain ⟨e, rfl⟩ : ∃ e, d = e + 1 := ⟨d - 1, by omega⟩
  refine td_X10_put ?_
  intro S hS
  iterate 11 refine hS _ _ _ _ ?_
  rw [ix]
  refine ⟨(by first | assumption | exact vp_in_nI (by simp only [alen]; omega) (by decide)), ?_⟩
  try rw [nI_clamp (by omega)]
  refine hS _ _ _ _ ?_
  exact hQ
theorem sm_put3 {v : Int32} (hd : 1 ≤ d) (hb : b < 10) (hQ : Q none (mu M 31 0 0 (13 + 4 * b) v)) : Td PR d 127 [.inr (30, 0, 0), .inl (nI b), .inl 3, .inl v] M Q := by
  have ix : (10 : Int32) + 4 * nI b + 3 = nI (13 + 4 * b) := by
    show nI 10 + nI 4 * nI b + nI 3 = _
    rw [nI_mul, nI_add, nI_add]; exact congrArg nI (by omega)
  obtain ⟨e, rfl⟩ : ∃ e, d = e + 1 := ⟨d - 1, by omega⟩
  refine td_X10_put ?_
  intro S hS
  iterate 11 refine hS _ _ _ _ ?_
  rw [ix]
  refine ⟨(by first | assumption | exact vp_in_nI (by simp only [alen]; omega) (by decide)), ?_⟩
  try rw [nI_clamp (by omega)]
  refine hS _ _ _ _ ?_
  exact hQ
theorem sm_lays0 {v : Int32} (hd : 1 ≤ d) (hb : b < 10) (hQ : Q none (mu M 31 0 0 (50 + 4 * b) v)) : Td PR d 129 [.inr (30, 0, 0), .inl (nI b), .inl 0, .inl v] M Q := by
  have ix : (50 : Int32) + 4 * nI b + 0 = nI (50 + 4 * b) := by
    show nI 50 + nI 4 * nI b + nI 0 = _
    rw [nI_mul, nI_add, nI_add]; exact congrArg nI (by omega)
  obtain ⟨e, rfl⟩ : ∃ e, d = e + 1 := ⟨d - 1, by omega⟩
  refine td_X10_lays ?_
  intro S hS
  iterate 11 refine hS _ _ _ _ ?_
  rw [ix]
  refine ⟨(by first | assumption | exact vp_in_nI (by simp only [alen]; omega) (by decide)), ?_⟩
  try rw [nI_clamp (by omega)]
  refine hS _ _ _ _ ?_
  exact hQ
theorem sm_lays1 {v : Int32} (hd : 1 ≤ d) (hb : b < 10) (hQ : Q none (mu M 31 0 0 (51 + 4 * b) v)) : Td PR d 129 [.inr (30, 0, 0), .inl (nI b), .inl 1, .inl v] M Q := by
  have ix : (50 : Int32) + 4 * nI b + 1 = nI (51 + 4 * b) := by
    show nI 50 + nI 4 * nI b + nI 1 = _
    rw [nI_mul, nI_add, nI_add]; exact congrArg nI (by omega)
  obtain ⟨e, rfl⟩ : ∃ e, d = e + 1 := ⟨d - 1, by omega⟩
  refine td_X10_lays ?_
  intro S hS
  iterate 11 refine hS _ _ _ _ ?_
  rw [ix]
  refine ⟨(by first | assumption | exact vp_in_nI (by simp only [alen]; omega) (by decide)), ?_⟩
  try rw [nI_clamp (by omega)]
  refine hS _ _ _ _ ?_
  exact hQ
theorem sm_lays2 {v : Int32} (hd : 1 ≤ d) (hb : b < 10) (hQ : Q none (mu M 31 0 0 (52 + 4 * b) v)) : Td PR d 129 [.inr (30, 0, 0), .inl (nI b), .inl 2, .inl v] M Q := by
  have ix : (50 : Int32) + 4 * nI b + 2 = nI (52 + 4 * b) := by
    show nI 50 + nI 4 * nI b + nI 2 = _
    rw [nI_mul, nI_add, nI_add]; exact congrArg nI (by omega)
  obtain ⟨e, rfl⟩ : ∃ e, d = e + 1 := ⟨d - 1, by omega⟩
  refine td_X10_lays ?_
  intro S hS
  iterate 11 refine hS _ _ _ _ ?_
  rw [ix]
  refine ⟨(by first | assumption | exact vp_in_nI (by simp only [alen]; omega) (by decide)), ?_⟩
  try rw [nI_clamp (by omega)]
  refine hS _ _ _ _ ?_
  exact hQ
theorem sm_lays3 {v : Int32} (hd : 1 ≤ d) (hb : b < 10) (hQ : Q none (mu M 31 0 0 (53 + 4 * b) v)) : Td PR d 129 [.inr (30, 0, 0), .inl (nI b), .inl 3, .inl v] M Q := by
  have ix : (50 : Int32) + 4 * nI b + 3 = nI (53 + 4 * b) := by
    show nI 50 + nI 4 * nI b + nI 3 = _
    rw [nI_mul, nI_add, nI_add]; exact congrArg nI (by omega)
  obtain ⟨e, rfl⟩ : ∃ e, d = e + 1 := ⟨d - 1, by omega⟩
  refine td_X10_lays ?_
  intro S hS
  iterate 11 refine hS _ _ _ _ ?_
  rw [ix]
  refine ⟨(by first | assumption | exact vp_in_nI (by simp only [alen]; omega) (by decide)), ?_⟩
  try rw [nI_clamp (by omega)]
  refine hS _ _ _ _ ?_
  exact hQ
theorem sm_swaps {v : Int32} {k : Nat} (hd : 1 ≤ d) (hk : k < 1458) (hQ : Q (some (.inl (M 31 0 0 k))) (mu M 31 0 0 k v)) : Td PR d 130 [.inr (30, 0, 0), .inl (nI k), .inl v] M Q := by
  obtain ⟨e, rfl⟩ : ∃ e, d = e + 1 := ⟨d - 1, by omega⟩
  refine td_X10_swaps ?_
  intro S hS
  iterate 4 refine hS _ _ _ _ ?_
  refine ⟨(by first | assumption | exact vp_in_nI (by simp only [alen]; omega) (by decide)), ?_⟩
  try rw [nI_clamp (by omega)]
  iterate 6 refine hS _ _ _ _ ?_
  refine ⟨(by first | assumption | exact vp_in_nI (by simp only [alen]; omega) (by decide)), ?_⟩
  try rw [nI_clamp (by omega)]
  iterate 2 refine hS _ _ _ _ ?_
  exact hQ
theorem sm_draw (hd : 1 ≤ d) (hQ : Q (some (.inl (drawV (M 31 0 0)))) (mr M 31 0 0 (drawF (M 31 0 0)))) : Td PR d 143 [.inr (30, 0, 0)] M Q := by
  obtain ⟨e, rfl⟩ : ∃ e, d = e + 1 := ⟨d - 1, by omega⟩
  refine td_X10_draw ?_
  intro S hS
  have e1 : mu M 31 0 0 0 (M 31 0 0 0 * 1103515245 + 12345) 31 0 0 0 = M 31 0 0 0 * 1103515245 + 12345 := mz_at
  iterate 7 refine hS _ _ _ _ ?_
  refine ⟨vp_l rfl, ?_⟩
  iterate 5 refine hS _ _ _ _ ?_
  refine ⟨vp_l rfl, ?_⟩
  iterate 4 refine hS _ _ _ _ ?_
  refine ⟨vp_l rfl, ?_⟩
  iterate 3 refine hS _ _ _ _ ?_
  exact qv hQ (congrArg ushr8 e1.symm)
theorem sm_counts {ky : Int32} (hd : 1 ≤ d) (hC : CN (M 31 0 0)) (hQ : Q (some (.inl (countsF (M 31 0 0) ky (cT (M 31 0 0))))) M) : Td PR d 197 [.inr (30, 0, 0), .inl ky] M Q := by
  obtain ⟨e, rfl⟩ : ∃ e, d = e + 1 := ⟨d - 1, by omega⟩
  refine td_X10_counts ?_
  intro S hS
  have h14 := hC.2.2.2.2.2
  have h9 := hC.2.2.2.2.1
  have lp : ∀ n, n ≤ cT (M 31 0 0) → countsF (M 31 0 0) ky n = countsF (M 31 0 0) ky (cT (M 31 0 0)) → S 10 [some (.inr (30, 0, 0)), some (.inl ky), some (.inl (nI n - 1))] [] M := by
    intro n
    induction n with
    | zero =>
      intro _ he
      iterate 2 refine hS _ _ _ _ ?_
      refine And.intro (fun h11 => ?_) (fun h11 => ?_)
      · iterate 2 refine hS _ _ _ _ ?_
        exact qv hQ he.symm
      · exact absurd h11 (by decide)
    | succ n ih =>
      intro hn he
      rw [nI_pred]
      have ix : (86 : Int32) + 2 * nI n = nI (86 + 2 * n) := by
        show nI 86 + nI 2 * nI n = _
        rw [nI_mul, nI_add]
      iterate 2 refine hS _ _ _ _ ?_
      refine And.intro (fun h11 => ?_) (fun h11 => ?_)
      · exact absurd h11 (nI_pos (by omega))
      · iterate 8 refine hS _ _ _ _ ?_
        rw [ix]
        refine ⟨(by first | assumption | exact vp_in_nI (by simp only [alen]; omega) (by decide)), ?_⟩
        try rw [nI_clamp (by omega)]
        iterate 2 refine hS _ _ _ _ ?_
        refine ⟨by decide, ?_⟩
        iterate 2 refine hS _ _ _ _ ?_
        refine And.intro (fun h30 => ?_) (fun h30 => ?_)
        · have e9 : countsF (M 31 0 0) ky (n + 1) = countsF (M 31 0 0) ky n := by rw [countsF_s]; exact if_neg h30
          iterate 2 refine hS _ _ _ _ ?_
          have ih2 := ih (by omega) (e9.symm.trans he)
          rw [Int32.sub_eq_add_neg] at ih2
          exact ih2
        · iterate 2 refine hS _ _ _ _ ?_
          refine qv hQ ?_
          rw [← he, countsF_s]
          exact if_pos h30
  iterate 4 refine hS _ _ _ _ ?_
  refine ⟨vp_l rfl, ?_⟩
  iterate 3 refine hS _ _ _ _ ?_
  have := lp _ (Nat.le_refl _) rfl
  rw [← h9] at this
  exact this
theorem sm_two_1 {x y : Int32} (hd : 1 ≤ d) (hQ : Q (some (.inl (twoF (-1) x y))) M) : Td PR d 199 [.inl (-1), .inl x, .inl y] M Q := by
  obtain ⟨e, rfl⟩ : ∃ e, d = e + 1 := ⟨d - 1, by omega⟩
  refine td_X10_two ?_
  intro S hS
  iterate 2 refine hS _ _ _ _ ?_
  refine And.intro (fun h => absurd h (by decide)) (fun _ => ?_)
  refine And.intro (fun h => absurd h (by decide)) (fun _ => ?_)
  refine And.intro (fun h => absurd h (by decide)) (fun _ => ?_)
  refine And.intro (fun h => absurd h (by decide)) (fun _ => ?_)
  refine And.intro (fun h => absurd h (by decide)) (fun _ => ?_)
  refine And.intro (fun h => absurd h (by decide)) (fun _ => ?_)
  refine And.intro (fun h => absurd h (by decide)) (fun _ => ?_)
  refine And.intro (fun _ => ?_) (fun h => absurd rfl h)
  iterate 2 refine hS _ _ _ _ ?_
  refine And.intro (fun h49 => ?_) (fun h49 => ?_)
  · iterate 3 refine hS _ _ _ _ ?_
    refine qv hQ ?_
    simp_all [twoF]
  · iterate 2 refine hS _ _ _ _ ?_
    refine And.intro (fun h53 => ?_) (fun h53 => ?_)
    · iterate 2 refine hS _ _ _ _ ?_
      refine qv hQ ?_
      simp_all [twoF]
    · iterate 3 refine hS _ _ _ _ ?_
      refine qv hQ ?_
      simp_all [twoF]
theorem sm_two_2 {x y : Int32} (hd : 1 ≤ d) (hQ : Q (some (.inl (twoF (-2) x y))) M) : Td PR d 199 [.inl (-2), .inl x, .inl y] M Q := by
  obtain ⟨e, rfl⟩ : ∃ e, d = e + 1 := ⟨d - 1, by omega⟩
  refine td_X10_two ?_
  intro S hS
  iterate 2 refine hS _ _ _ _ ?_
  refine And.intro (fun h => absurd h (by decide)) (fun _ => ?_)
  refine And.intro (fun h => absurd h (by decide)) (fun _ => ?_)
  refine And.intro (fun h => absurd h (by decide)) (fun _ => ?_)
  refine And.intro (fun h => absurd h (by decide)) (fun _ => ?_)
  refine And.intro (fun h => absurd h (by decide)) (fun _ => ?_)
  refine And.intro (fun h => absurd h (by decide)) (fun _ => ?_)
  refine And.intro (fun _ => ?_) (fun h => absurd rfl h)
  iterate 2 refine hS _ _ _ _ ?_
  refine And.intro (fun h63 => ?_) (fun h63 => ?_)
  · iterate 2 refine hS _ _ _ _ ?_
    refine qv hQ ?_
    simp_all [twoF]
  · iterate 2 refine hS _ _ _ _ ?_
    refine And.intro (fun h67 => ?_) (fun h67 => ?_)
    · iterate 2 refine hS _ _ _ _ ?_
      refine qv hQ ?_
      simp_all [twoF]
    · iterate 3 refine hS _ _ _ _ ?_
      refine qv hQ ?_
      simp_all [twoF]
theorem sm_two_3 {x y : Int32} (hd : 1 ≤ d) (hQ : Q (some (.inl (twoF (-3) x y))) M) : Td PR d 199 [.inl (-3), .inl x, .inl y] M Q := by
  obtain ⟨e, rfl⟩ : ∃ e, d = e + 1 := ⟨d - 1, by omega⟩
  refine td_X10_two ?_
  intro S hS
  iterate 2 refine hS _ _ _ _ ?_
  refine And.intro (fun h => absurd h (by decide)) (fun _ => ?_)
  refine And.intro (fun h => absurd h (by decide)) (fun _ => ?_)
  refine And.intro (fun h => absurd h (by decide)) (fun _ => ?_)
  refine And.intro (fun h => absurd h (by decide)) (fun _ => ?_)
  refine And.intro (fun h => absurd h (by decide)) (fun _ => ?_)
  refine And.intro (fun _ => ?_) (fun h => absurd rfl h)
  iterate 3 refine hS _ _ _ _ ?_
  refine And.intro (fun h78 => ?_) (fun h78 => ?_)
  · iterate 2 refine hS _ _ _ _ ?_
    refine qv hQ ?_
    simp_all [twoF]
  · iterate 3 refine hS _ _ _ _ ?_
    refine qv hQ ?_
    simp_all [twoF]
theorem sm_two_4 {x y : Int32} (hd : 1 ≤ d) (hQ : Q (some (.inl (twoF (-4) x y))) M) : Td PR d 199 [.inl (-4), .inl x, .inl y] M Q := by
  obtain ⟨e, rfl⟩ : ∃ e, d = e + 1 := ⟨d - 1, by omega⟩
  refine td_X10_two ?_
  intro S hS
  iterate 2 refine hS _ _ _ _ ?_
  refine And.intro (fun h => absurd h (by decide)) (fun _ => ?_)
  refine And.intro (fun h => absurd h (by decide)) (fun _ => ?_)
  refine And.intro (fun h => absurd h (by decide)) (fun _ => ?_)
  refine And.intro (fun h => absurd h (by decide)) (fun _ => ?_)
  refine And.intro (fun _ => ?_) (fun h => absurd rfl h)
  iterate 3 refine hS _ _ _ _ ?_
  refine And.intro (fun h89 => ?_) (fun h89 => ?_)
  · iterate 2 refine hS _ _ _ _ ?_
    refine qv hQ ?_
    simp_all [twoF]
  · iterate 3 refine hS _ _ _ _ ?_
    refine qv hQ ?_
    simp_all [twoF]
theorem sm_two_5 {x y : Int32} (hd : 1 ≤ d) (hQ : Q (some (.inl (twoF (-5) x y))) M) : Td PR d 199 [.inl (-5), .inl x, .inl y] M Q := by
  obtain ⟨e, rfl⟩ : ∃ e, d = e + 1 := ⟨d - 1, by omega⟩
  refine td_X10_two ?_
  intro S hS
  iterate 2 refine hS _ _ _ _ ?_
  refine And.intro (fun h => absurd h (by decide)) (fun _ => ?_)
  refine And.intro (fun h => absurd h (by decide)) (fun _ => ?_)
  refine And.intro (fun h => absurd h (by decide)) (fun _ => ?_)
  refine And.intro (fun _ => ?_) (fun h => absurd rfl h)
  iterate 3 refine hS _ _ _ _ ?_
  refine And.intro (fun h100 => ?_) (fun h100 => ?_)
  · iterate 2 refine hS _ _ _ _ ?_
    refine qv hQ ?_
    simp_all [twoF]
  · iterate 3 refine hS _ _ _ _ ?_
    refine qv hQ ?_
    simp_all [twoF]
theorem sm_two_6 {x y : Int32} (hd : 1 ≤ d) (hQ : Q (some (.inl (twoF (-6) x y))) M) : Td PR d 199 [.inl (-6), .inl x, .inl y] M Q := by
  obtain ⟨e, rfl⟩ : ∃ e, d = e + 1 := ⟨d - 1, by omega⟩
  refine td_X10_two ?_
  intro S hS
  iterate 2 refine hS _ _ _ _ ?_
  refine And.intro (fun h => absurd h (by decide)) (fun _ => ?_)
  refine And.intro (fun h => absurd h (by decide)) (fun _ => ?_)
  refine And.intro (fun _ => ?_) (fun h => absurd rfl h)
  iterate 4 refine hS _ _ _ _ ?_
  refine qv hQ ?_
  simp_all [twoF]
theorem sm_two_7 {x y : Int32} (hd : 1 ≤ d) (hQ : Q (some (.inl (twoF (-7) x y))) M) : Td PR d 199 [.inl (-7), .inl x, .inl y] M Q := by
  obtain ⟨e, rfl⟩ : ∃ e, d = e + 1 := ⟨d - 1, by omega⟩
  refine td_X10_two ?_
  intro S hS
  iterate 2 refine hS _ _ _ _ ?_
  refine And.intro (fun h => absurd h (by decide)) (fun _ => ?_)
  refine And.intro (fun _ => ?_) (fun h => absurd rfl h)
  iterate 4 refine hS _ _ _ _ ?_
  refine qv hQ ?_
  simp_all [twoF]
theorem sm_two_8 {x y : Int32} (hd : 1 ≤ d) (hQ : Q (some (.inl (twoF (-8) x y))) M) : Td PR d 199 [.inl (-8), .inl x, .inl y] M Q := by
  obtain ⟨e, rfl⟩ : ∃ e, d = e + 1 := ⟨d - 1, by omega⟩
  refine td_X10_two ?_
  intro S hS
  iterate 2 refine hS _ _ _ _ ?_
  refine And.intro (fun _ => ?_) (fun h => absurd rfl h)
  iterate 4 refine hS _ _ _ _ ?_
  refine qv hQ ?_
  simp_all [twoF]
theorem sm_two_9 {x y : Int32} (hd : 1 ≤ d) (hQ : Q (some (.inl (twoF (-9) x y))) M) : Td PR d 199 [.inl (-9), .inl x, .inl y] M Q := by
  obtain ⟨e, rfl⟩ : ∃ e, d = e + 1 := ⟨d - 1, by omega⟩
  refine td_X10_two ?_
  intro S hS
  iterate 2 refine hS _ _ _ _ ?_
  refine And.intro (fun h => absurd h (by decide)) (fun _ => ?_)
  refine And.intro (fun h => absurd h (by decide)) (fun _ => ?_)
  refine And.intro (fun h => absurd h (by decide)) (fun _ => ?_)
  refine And.intro (fun h => absurd h (by decide)) (fun _ => ?_)
  refine And.intro (fun h => absurd h (by decide)) (fun _ => ?_)
  refine And.intro (fun h => absurd h (by decide)) (fun _ => ?_)
  refine And.intro (fun h => absurd h (by decide)) (fun _ => ?_)
  refine And.intro (fun h => absurd h (by decide)) (fun _ => ?_)
  iterate 2 refine hS _ _ _ _ ?_
  refine And.intro (fun h122 => ?_) (fun h122 => ?_)
  · iterate 3 refine hS _ _ _ _ ?_
    refine ⟨h122, ?_⟩
    refine hS _ _ _ _ ?_
    refine qv hQ ?_
    simp_all [twoF]
  · iterate 3 refine hS _ _ _ _ ?_
    refine qv hQ ?_
    simp_all [twoF]
theorem sm_two {x y : Int32} {j : Nat} (hd : 1 ≤ d) (h1 : 1 ≤ j) (h2 : j < 10) (hQ : Q (some (.inl (twoF (- nI j) x y))) M) : Td PR d 199 [.inl (- nI j), .inl x, .inl y] M Q := by
  obtain rfl | rfl | rfl | rfl | rfl | rfl | rfl | rfl | rfl : j = 1 ∨ j = 2 ∨ j = 3 ∨ j = 4 ∨ j = 5 ∨ j = 6 ∨ j = 7 ∨ j = 8 ∨ j = 9 := by omega
  · exact sm_two_1 hd hQ
  · exact sm_two_2 hd hQ
  · exact sm_two_3 hd hQ
  · exact sm_two_4 hd hQ
  · exact sm_two_5 hd hQ
  · exact sm_two_6 hd hQ
  · exact sm_two_7 hd hQ
  · exact sm_two_8 hd hQ
  · exact sm_two_9 hd hQ
end W5
