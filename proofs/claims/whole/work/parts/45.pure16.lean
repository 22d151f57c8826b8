-- 45.pure16: ranges; thoughts and their walks
theorem nI_m1' {n : Nat} (h : 0 < n) : nI n - 1 = nI (n - 1) := by
  obtain ⟨m, rfl⟩ : ∃ m, n = m + 1 := ⟨n - 1, by omega⟩
  exact nI_pred m
theorem in_bd {n : Nat} {v : Int32} (hn : n < 100000) : (¬ v < 0 ∧ ¬ nI n - 1 < v) ↔ isBd n v := by
  constructor
  · intro ⟨h1, h2⟩
    obtain ⟨j, hj, rfl⟩ := nI_of h1
    rcases Nat.eq_zero_or_pos n with z | z
    · subst z
      exact absurd (Int32.lt_of_lt_of_le (by decide : nI 0 - 1 < 0) (nI_pos' hj)) h2
    · rw [nI_m1' z] at h2
      refine isBd_nI (Nat.lt_of_not_le fun y => h2 (nI_lt (by omega) hj))
  · intro ⟨j, hj, e⟩
    subst e
    refine ⟨nI_pos (by omega), ?_⟩
    rw [nI_m1' (by omega)]
    exact nI_nlt (by omega) (by omega)
theorem in_bd1 {n : Nat} {v : Int32} (hn : n < 100000) : (¬ v < 0 ∧ ¬ nI n < v) ↔ isBd (n + 1) v := by
  have := in_bd (n := n + 1) (v := v)
  rw [nI_pred] at this
  by_cases h : n + 1 < 100000
  · exact this h
  · have e : n = 99999 := by omega
    subst e
    constructor
    · intro ⟨h1, h2⟩
      obtain ⟨j, hj, rfl⟩ := nI_of h1
      refine isBd_nI (Nat.lt_of_not_le fun y => h2 (nI_lt (by omega) hj))
    · intro ⟨j, hj, e⟩
      subst e
      exact ⟨nI_pos (by omega), nI_nlt (by omega) (by omega)⟩
section W16
variable {d l b p K : Nat} {M : Mem} {Q : PQ} {f : FA} {x : Int32}
theorem sp_isTown (hd : 1 ≤ d) (hQ : Q (some (.inl (bI (isBd 8 x)))) M) : Td PR d 113 [.inl x] M Q := by
  obtain ⟨e, rfl⟩ : ∃ e, d = e + 1 := ⟨d - 1, by omega⟩
  refine td_X9_isTown ?_
  intro S hS
  iterate 2 refine hS _ _ _ _ ?_
  refine And.intro (fun h1 => ?_) (fun h1 => ?_)
  · iterate 2 refine hS _ _ _ _ ?_
    refine ⟨rfl, ?_⟩
    exact qv hQ (bI_n (isBd_lo h1 (by decide)))
  · iterate 3 refine hS _ _ _ _ ?_
    refine And.intro (fun h7 => ?_) (fun h7 => ?_)
    · iterate 2 refine hS _ _ _ _ ?_
      refine ⟨rfl, ?_⟩
      exact qv hQ (bI_n (isBd_hi h7 (by decide)))
    · iterate 3 refine hS _ _ _ _ ?_
      refine ⟨rfl, ?_⟩
      exact qv hQ (bI_p (isBd_in h1 h7 (by decide)))
theorem sp_isKind (hd : 1 ≤ d) (hQ : Q (some (.inl (bI (isBd 6 x)))) M) : Td PR d 114 [.inl x] M Q := by
  obtain ⟨e, rfl⟩ : ∃ e, d = e + 1 := ⟨d - 1, by omega⟩
  refine td_X9_isKind ?_
  intro S hS
  iterate 2 refine hS _ _ _ _ ?_
  refine And.intro (fun h1 => ?_) (fun h1 => ?_)
  · iterate 2 refine hS _ _ _ _ ?_
    refine ⟨rfl, ?_⟩
    exact qv hQ (bI_n (isBd_lo h1 (by decide)))
  · iterate 3 refine hS _ _ _ _ ?_
    refine And.intro (fun h7 => ?_) (fun h7 => ?_)
    · iterate 2 refine hS _ _ _ _ ?_
      refine ⟨rfl, ?_⟩
      exact qv hQ (bI_n (isBd_hi h7 (by decide)))
    · iterate 3 refine hS _ _ _ _ ?_
      refine ⟨rfl, ?_⟩
      exact qv hQ (bI_p (isBd_in h1 h7 (by decide)))
theorem sp_isSheet (hd : 1 ≤ d) (hQ : Q (some (.inl (bI (isBd 4 x)))) M) : Td PR d 115 [.inl x] M Q := by
  obtain ⟨e, rfl⟩ : ∃ e, d = e + 1 := ⟨d - 1, by omega⟩
  refine td_X9_isSheet ?_
  intro S hS
  iterate 2 refine hS _ _ _ _ ?_
  refine And.intro (fun h1 => ?_) (fun h1 => ?_)
  · iterate 2 refine hS _ _ _ _ ?_
    refine ⟨rfl, ?_⟩
    exact qv hQ (bI_n (isBd_lo h1 (by decide)))
  · iterate 3 refine hS _ _ _ _ ?_
    refine And.intro (fun h6 => ?_) (fun h6 => ?_)
    · iterate 2 refine hS _ _ _ _ ?_
      refine ⟨rfl, ?_⟩
      exact qv hQ (bI_n (isBd_hi h6 (by decide)))
    · iterate 3 refine hS _ _ _ _ ?_
      refine ⟨rfl, ?_⟩
      exact qv hQ (bI_p (isBd_in h1 h6 (by decide)))
theorem sp_isSlot (hd : 1 ≤ d) (hQ : Q (some (.inl (bI (isBd 5 x)))) M) : Td PR d 116 [.inl x] M Q := by
  obtain ⟨e, rfl⟩ : ∃ e, d = e + 1 := ⟨d - 1, by omega⟩
  refine td_X9_isSlot ?_
  intro S hS
  iterate 2 refine hS _ _ _ _ ?_
  refine And.intro (fun h1 => ?_) (fun h1 => ?_)
  · iterate 2 refine hS _ _ _ _ ?_
    refine ⟨rfl, ?_⟩
    exact qv hQ (bI_n (isBd_lo h1 (by decide)))
  · iterate 3 refine hS _ _ _ _ ?_
    refine And.intro (fun h6 => ?_) (fun h6 => ?_)
    · iterate 2 refine hS _ _ _ _ ?_
      refine ⟨rfl, ?_⟩
      exact qv hQ (bI_n (isBd_hi h6 (by decide)))
    · iterate 3 refine hS _ _ _ _ ?_
      refine ⟨rfl, ?_⟩
      exact qv hQ (bI_p (isBd_in h1 h6 (by decide)))
theorem sp_isBed (hd : 1 ≤ d) (hL : LL M 0 f) (hQ : Q (some (.inl (bI (isBd (cB f) x)))) M) : Td PR d 111 [.inr (0, 0, 0), .inl x] M Q := by
  have h9 := hL.p9
  have h10 := hL.b10
  obtain ⟨e, rfl⟩ : ∃ e, d = e + 1 := ⟨d - 1, by omega⟩
  refine td_X9_isBed ?_
  intro S hS
  iterate 2 refine hS _ _ _ _ ?_
  refine And.intro (fun h1 => ?_) (fun h1 => ?_)
  · iterate 2 refine hS _ _ _ _ ?_
    refine ⟨rfl, ?_⟩
    exact qv hQ (bI_n (isBd_lo h1 (by omega)))
  · iterate 5 refine hS _ _ _ _ ?_
    refine And.intro (fun h12 => ?_) (fun h12 => ?_)
    · have h12' := h12
      rw [show M 1 0 0 2 = _ from hL.bc] at h12'
      iterate 2 refine hS _ _ _ _ ?_
      refine ⟨rfl, ?_⟩
      exact qv hQ (bI_n (isBd_hi h12' (by omega)))
    · have h12' := h12
      rw [show M 1 0 0 2 = _ from hL.bc] at h12'
      iterate 3 refine hS _ _ _ _ ?_
      refine ⟨rfl, ?_⟩
      exact qv hQ (bI_p (isBd_in h1 h12' (by omega)))
theorem sp_isOne (hd : 1 ≤ d) (hL : LL M 0 f) (hQ : Q (some (.inl (bI (isBd (cP f) x)))) M) : Td PR d 112 [.inr (0, 0, 0), .inl x] M Q := by
  have h9 := hL.p9
  have h10 := hL.b10
  obtain ⟨e, rfl⟩ : ∃ e, d = e + 1 := ⟨d - 1, by omega⟩
  refine td_X9_isOne ?_
  intro S hS
  iterate 2 refine hS _ _ _ _ ?_
  refine And.intro (fun h1 => ?_) (fun h1 => ?_)
  · iterate 2 refine hS _ _ _ _ ?_
    refine ⟨rfl, ?_⟩
    exact qv hQ (bI_n (isBd_lo h1 (by omega)))
  · iterate 5 refine hS _ _ _ _ ?_
    refine And.intro (fun h12 => ?_) (fun h12 => ?_)
    · have h12' := h12
      rw [show M 1 0 0 4 = _ from hL.pc] at h12'
      iterate 2 refine hS _ _ _ _ ?_
      refine ⟨rfl, ?_⟩
      exact qv hQ (bI_n (isBd_hi h12' (by omega)))
    · have h12' := h12
      rw [show M 1 0 0 4 = _ from hL.pc] at h12'
      iterate 3 refine hS _ _ _ _ ?_
      refine ⟨rfl, ?_⟩
      exact qv hQ (bI_p (isBd_in h1 h12' (by omega)))
theorem sm_isTown (hd : 2 ≤ d) (hQ : Q (some (.inl (bI (isBd 8 x)))) M) : Td PR d 125 [.inl x] M Q := by
  obtain ⟨e, rfl⟩ : ∃ e, d = e + 1 := ⟨d - 1, by omega⟩
  refine td_X10_isTown ?_
  intro S hS
  iterate 4 refine hS _ _ _ _ ?_
  refine sm_in (by omega) ?_
  refine hS _ _ _ _ ?_
  refine ⟨narrow_bI _, ?_⟩
  exact qv hQ (bI_cg (in_bd1 (n := 7) (by omega)).symm)
theorem sm_isSheet (hd : 2 ≤ d) (hQ : Q (some (.inl (bI (isBd 4 x)))) M) : Td PR d 201 [.inl x] M Q := by
  obtain ⟨e, rfl⟩ : ∃ e, d = e + 1 := ⟨d - 1, by omega⟩
  refine td_X10_isSheet ?_
  intro S hS
  iterate 4 refine hS _ _ _ _ ?_
  refine sm_in (by omega) ?_
  refine hS _ _ _ _ ?_
  refine ⟨narrow_bI _, ?_⟩
  exact qv hQ (bI_cg (in_bd1 (n := 3) (by omega)).symm)
theorem sm_isSlot (hd : 2 ≤ d) (hQ : Q (some (.inl (bI (isBd 5 x)))) M) : Td PR d 202 [.inl x] M Q := by
  obtain ⟨e, rfl⟩ : ∃ e, d = e + 1 := ⟨d - 1, by omega⟩
  refine td_X10_isSlot ?_
  intro S hS
  iterate 4 refine hS _ _ _ _ ?_
  refine sm_in (by omega) ?_
  refine hS _ _ _ _ ?_
  refine ⟨narrow_bI _, ?_⟩
  exact qv hQ (bI_cg (in_bd1 (n := 4) (by omega)).symm)
theorem sm_isBed (hd : 2 ≤ d) (hC : CN (M 31 0 0)) (hQ : Q (some (.inl (bI (isBd (cB (M 31 0 0)) x)))) M) : Td PR d 123 [.inr (30, 0, 0), .inl x] M Q := by
  have h9 := hC.2.2.2.1
  have h10 := hC.2.1
  obtain ⟨e, rfl⟩ : ∃ e, d = e + 1 := ⟨d - 1, by omega⟩
  refine td_X10_isBed ?_
  intro S hS
  iterate 6 refine hS _ _ _ _ ?_
  refine ⟨vp_l rfl, ?_⟩
  rw [show (M 31 0 0 (Int32.toNatClampNeg 1)) = _ from hC.1]
  iterate 3 refine hS _ _ _ _ ?_
  refine sm_in (by omega) ?_
  refine hS _ _ _ _ ?_
  refine ⟨narrow_bI _, ?_⟩
  exact qv hQ (bI_cg (in_bd (by omega)).symm)
theorem sm_isOne (hd : 2 ≤ d) (hC : CN (M 31 0 0)) (hQ : Q (some (.inl (bI (isBd (cP (M 31 0 0)) x)))) M) : Td PR d 124 [.inr (30, 0, 0), .inl x] M Q := by
  have h9 := hC.2.2.2.1
  have h10 := hC.2.1
  obtain ⟨e, rfl⟩ : ∃ e, d = e + 1 := ⟨d - 1, by omega⟩
  refine td_X10_isOne ?_
  intro S hS
  iterate 6 refine hS _ _ _ _ ?_
  refine ⟨vp_l rfl, ?_⟩
  rw [show (M 31 0 0 (Int32.toNatClampNeg 4)) = _ from hC.2.2.1]
  iterate 3 refine hS _ _ _ _ ?_
  refine sm_in (by omega) ?_
  refine hS _ _ _ _ ?_
  refine ⟨narrow_bI _, ?_⟩
  exact qv hQ (bI_cg (in_bd (by omega)).symm)
theorem sm_isUnder {k o : Int32} (hd : 1 ≤ d) (hQ : Q (some (.inl (bI (undP k o)))) M) : Td PR d 138 [.inl k, .inl o] M Q := by
  obtain ⟨e, rfl⟩ : ∃ e, d = e + 1 := ⟨d - 1, by omega⟩
  refine td_X10_isUnder ?_
  intro S hS
  iterate 2 refine hS _ _ _ _ ?_
  refine And.intro (fun h1 => ?_) (fun h1 => ?_)
  · iterate 3 refine hS _ _ _ _ ?_
    refine ⟨rfl, ?_⟩
    first | (refine qv hQ ?_; rw [bI_p]; simp_all [undP]; done) | (refine qv hQ ?_; rw [bI_n]; simp_all [undP]; done) | (refine qv hQ ?_; rw [bI_n]; intro z; simp_all [undP]; done)
  · iterate 3 refine hS _ _ _ _ ?_
    refine And.intro (fun h6 => ?_) (fun h6 => ?_)
    · iterate 3 refine hS _ _ _ _ ?_
      refine ⟨rfl, ?_⟩
      first | (refine qv hQ ?_; rw [bI_p]; simp_all [undP]; done) | (refine qv hQ ?_; rw [bI_n]; simp_all [undP]; done) | (refine qv hQ ?_; rw [bI_n]; intro z; simp_all [undP]; done)
    · iterate 3 refine hS _ _ _ _ ?_
      refine And.intro (fun h11 => ?_) (fun h11 => ?_)
      · iterate 3 refine hS _ _ _ _ ?_
        refine And.intro (fun h21 => ?_) (fun h21 => ?_)
        · iterate 2 refine hS _ _ _ _ ?_
          refine ⟨rfl, ?_⟩
          first | (refine qv hQ ?_; rw [bI_p]; simp_all [undP]; done) | (refine qv hQ ?_; rw [bI_n]; simp_all [undP]; done) | (refine qv hQ ?_; rw [bI_n]; intro z; simp_all [undP]; done)
        · iterate 3 refine hS _ _ _ _ ?_
          refine And.intro (fun h26 => ?_) (fun h26 => ?_)
          · iterate 2 refine hS _ _ _ _ ?_
            refine ⟨rfl, ?_⟩
            first | (refine qv hQ ?_; rw [bI_p]; simp_all [undP]; done) | (refine qv hQ ?_; rw [bI_n]; simp_all [undP]; done) | (refine qv hQ ?_; rw [bI_n]; intro z; simp_all [undP]; done)
          · iterate 3 refine hS _ _ _ _ ?_
            refine ⟨rfl, ?_⟩
            first | (refine qv hQ ?_; rw [bI_p]; simp_all [undP]; done) | (refine qv hQ ?_; rw [bI_n]; simp_all [undP]; done) | (refine qv hQ ?_; rw [bI_n]; intro z; simp_all [undP]; done)
      · iterate 3 refine hS _ _ _ _ ?_
        refine And.intro (fun h16 => ?_) (fun h16 => ?_)
        · iterate 3 refine hS _ _ _ _ ?_
          refine ⟨rfl, ?_⟩
          first | (refine qv hQ ?_; rw [bI_p]; simp_all [undP]; done) | (refine qv hQ ?_; rw [bI_n]; simp_all [undP]; done) | (refine qv hQ ?_; rw [bI_n]; intro z; simp_all [undP]; done)
        · iterate 3 refine hS _ _ _ _ ?_
          refine And.intro (fun h21 => ?_) (fun h21 => ?_)
          · iterate 2 refine hS _ _ _ _ ?_
            refine ⟨rfl, ?_⟩
            first | (refine qv hQ ?_; rw [bI_p]; simp_all [undP]; done) | (refine qv hQ ?_; rw [bI_n]; simp_all [undP]; done) | (refine qv hQ ?_; rw [bI_n]; intro z; simp_all [undP]; done)
          · iterate 3 refine hS _ _ _ _ ?_
            refine And.intro (fun h26 => ?_) (fun h26 => ?_)
            · iterate 2 refine hS _ _ _ _ ?_
              refine ⟨rfl, ?_⟩
              first | (refine qv hQ ?_; rw [bI_p]; simp_all [undP]; done) | (refine qv hQ ?_; rw [bI_n]; simp_all [undP]; done) | (refine qv hQ ?_; rw [bI_n]; intro z; simp_all [undP]; done)
            · iterate 3 refine hS _ _ _ _ ?_
              refine ⟨rfl, ?_⟩
              first | (refine qv hQ ?_; rw [bI_p]; simp_all [undP]; done) | (refine qv hQ ?_; rw [bI_n]; simp_all [undP]; done) | (refine qv hQ ?_; rw [bI_n]; intro z; simp_all [undP]; done)
theorem sm_isHome (hd : 2 ≤ d) (hp : p < 10) (hQ : Q (some (.inl (bI (homeP (M 31 0 0) p)))) M) : Td PR d 159 [.inr (30, 0, 0), .inl (nI p)] M Q := by
  obtain ⟨e, rfl⟩ : ∃ e, d = e + 1 := ⟨d - 1, by omega⟩
  refine td_X10_isHome ?_
  intro S hS
  iterate 4 refine hS _ _ _ _ ?_
  refine sm_by0 (by omega) (by omega) ?_
  iterate 4 refine hS _ _ _ _ ?_
  refine sm_by1 (by omega) (by omega) ?_
  refine hS _ _ _ _ ?_
  refine And.intro (fun h12 => ?_) (fun h12 => ?_)
  · iterate 2 refine hS _ _ _ _ ?_
    refine ⟨rfl, ?_⟩
    exact qv hQ (bI_n h12)
  · iterate 3 refine hS _ _ _ _ ?_
    refine ⟨rfl, ?_⟩
    exact qv hQ (bI_p h12)
theorem sm_atHome (hd : 3 ≤ d) (hC : CN (M 31 0 0)) (hQ : Q (some (.inl (nI (homeF (M 31 0 0))))) M) : Td PR d 160 [.inr (30, 0, 0)] M Q := by
  have hp := hC.2.2.2.1
  have h4 := hC.2.2.1
  obtain ⟨e, rfl⟩ : ∃ e, d = e + 1 := ⟨d - 1, by omega⟩
  refine td_X10_atHome ?_
  intro S hS
  iterate 4 refine hS _ _ _ _ ?_
  refine lp_up (T := fun i => S 4 [some (.inr (30, 0, 0)), some (.inl (nI (setF (homeP (M 31 0 0)) i))), some (.inl (nI i))] [] M) (N := cP (M 31 0 0)) ?_ ?_ 0 (Nat.zero_le _)
  · iterate 5 refine hS _ _ _ _ ?_
    refine ⟨vp_l rfl, ?_⟩
    try rw [show Int32.toNatClampNeg 4 = 4 from rfl]
    refine hS _ _ _ _ ?_
    refine And.intro (fun h11 => ?_) (fun h11 => ?_)
    · iterate 2 refine hS _ _ _ _ ?_
      exact hQ
    · exact (lp_x h4 h11).elim
  · intro i hi ih
    rw [nI_succ] at ih
    iterate 5 refine hS _ _ _ _ ?_
    refine ⟨vp_l rfl, ?_⟩
    try rw [show Int32.toNatClampNeg 4 = 4 from rfl]
    refine hS _ _ _ _ ?_
    refine And.intro (fun h11 => ?_) (fun h11 => ?_)
    · exact (lp_s h4 hi (by omega) h11).elim
    · iterate 4 refine hS _ _ _ _ ?_
      refine sm_isHome (by omega) (by omega) ?_
      refine hS _ _ _ _ ?_
      refine And.intro (fun h20 => ?_) (fun h20 => ?_)
      · replace h20 := bI_f h20
        iterate 5 refine hS _ _ _ _ ?_
        rw [setF_f (P := homeP (M 31 0 0)) h20] at ih
        refine slv ih ?_
        rw [show nI (setF (homeP (M 31 0 0)) i) ||| 0 = nI (setF (homeP (M 31 0 0)) i) from Int32.or_zero]
        rfl
      · replace h20 := bI_t h20
        iterate 8 refine hS _ _ _ _ ?_
        rw [setF_t (P := homeP (M 31 0 0)) h20, ← (orb _ (setF_512 _ (by omega)) i (by omega)).1] at ih
        exact ih
theorem sm_gone (hd : 2 ≤ d) (hC : CN (M 31 0 0)) (hK : FK (M 31 0 0)) (hQ : Q (some (.inl (nI (setF (fun p => ¬ M 31 0 0 (53 + 4 * p) = 0) (cP (M 31 0 0)))))) M) : Td PR d 161 [.inr (30, 0, 0)] M Q := by
  have hp := hC.2.2.2.1
  have h4 := hC.2.2.1
  obtain ⟨e, rfl⟩ : ∃ e, d = e + 1 := ⟨d - 1, by omega⟩
  refine td_X10_gone ?_
  intro S hS
  iterate 4 refine hS _ _ _ _ ?_
  refine lp_up (T := fun i => S 4 [some (.inr (30, 0, 0)), some (.inl (nI (setF (fun p => ¬ M 31 0 0 (53 + 4 * p) = 0) i))), some (.inl (nI i))] [] M) (N := cP (M 31 0 0)) ?_ ?_ 0 (Nat.zero_le _)
  · iterate 5 refine hS _ _ _ _ ?_
    refine ⟨vp_l rfl, ?_⟩
    try rw [show Int32.toNatClampNeg 4 = 4 from rfl]
    refine hS _ _ _ _ ?_
    refine And.intro (fun h11 => ?_) (fun h11 => ?_)
    · iterate 2 refine hS _ _ _ _ ?_
      exact hQ
    · exact (lp_x h4 h11).elim
  · intro i hi ih
    rw [nI_succ] at ih
    obtain ⟨j, hj, ej⟩ := (hK i hi).2
    have h512 := setF_512 (fun p => ¬ M 31 0 0 (53 + 4 * p) = 0) (n := i) (by omega)
    iterate 5 refine hS _ _ _ _ ?_
    refine ⟨vp_l rfl, ?_⟩
    try rw [show Int32.toNatClampNeg 4 = 4 from rfl]
    refine hS _ _ _ _ ?_
    refine And.intro (fun h11 => ?_) (fun h11 => ?_)
    · exact (lp_s h4 hi (by omega) h11).elim
    · iterate 5 refine hS _ _ _ _ ?_
      refine sm_by3 (by omega) (by omega) ?_
      iterate 6 refine hS _ _ _ _ ?_
      refine slv ih ?_
      rw [ej]
      obtain rfl | rfl : j = 0 ∨ j = 1 := by omega
      · rw [setF_f (by rw [ej]; exact fun z => z rfl)]
        have z : nI 0 <<< (nI i &&& 31) = 0 := by
          have : ∀ i, i < 9 → nI 0 <<< (nI i &&& 31) = 0 := by decide
          exact this i (by omega)
        rw [z, Int32.or_zero]; rfl
      · rw [setF_t (by rw [ej]; decide), ← (orb _ h512 i (by omega)).1]
        rfl
theorem sm_thinks (hd : 1 ≤ d) (hQ : ∀ M', (∀ k, k ≠ 38 → M' k = M k) → (∀ i, i < 86 → M' 38 0 0 i = M 31 0 0 i) → Q none M') : Td PR d 170 [.inr (30, 0, 0)] M Q := by
  obtain ⟨e, rfl⟩ : ∃ e, d = e + 1 := ⟨d - 1, by omega⟩
  refine td_X10_thinks ?_
  intro S hS
  iterate 2 refine hS _ _ _ _ ?_
  refine lp_up (T := fun i => ∀ M', (∀ k, k ≠ 38 → M' k = M k) → (∀ j, j < i → M' 38 0 0 j = M 31 0 0 j) → S 2 [some (.inr (30, 0, 0)), some (.inl (nI i))] [] M') (N := 86) ?_ ?_ 0 (Nat.zero_le _) M (fun _ _ => rfl) (fun j h => absurd h (Nat.not_lt_zero _))
  · intro M' a1 a2
    iterate 3 refine hS _ _ _ _ ?_
    refine And.intro (fun h5 => ?_) (fun h5 => ?_)
    · refine hS _ _ _ _ ?_
      exact hQ M' a1 a2
    · exact (lp_x (n := 86) rfl h5).elim
  · intro i hi ih M' a1 a2
    have e31 : M' 31 = M 31 := a1 31 (by decide)
    iterate 3 refine hS _ _ _ _ ?_
    refine And.intro (fun h5 => ?_) (fun h5 => ?_)
    · exact (lp_s (n := 86) rfl hi (by omega) h5).elim
    · iterate 7 refine hS _ _ _ _ ?_
      refine ⟨(by first | assumption | exact vp_in_nI (by simp only [alen]; omega) (by decide)), ?_⟩
      try rw [nI_clamp (by omega)]
      refine hS _ _ _ _ ?_
      refine ⟨(by first | assumption | exact vp_in_nI (by simp only [alen]; omega) (by decide)), ?_⟩
      try rw [nI_clamp (by omega)]
      iterate 2 refine hS _ _ _ _ ?_
      have := ih (mu M' 38 0 0 i (M' 31 0 0 i)) (fun k hk => (mz_k hk).trans (a1 k hk)) (fun j hj => by
        by_cases z : j = i
        · subst z; rw [mz_at, e31]
        · rw [upd_mu, upd_ne z]; exact a2 j (by omega))
      rw [nI_succ] at this
      exact this
theorem sm_putsBack (hd : 1 ≤ d) {g : FA} (h1 : ∀ i, i < 86 → M 38 0 0 i = g i) (h2 : ∀ i, 86 ≤ i → M 31 0 0 i = g i) (hQ : ∀ M', (∀ k, k ≠ 31 → M' k = M k) → M' 31 0 0 = g → Q none M') : Td PR d 171 [.inr (30, 0, 0)] M Q := by
  obtain ⟨e, rfl⟩ : ∃ e, d = e + 1 := ⟨d - 1, by omega⟩
  refine td_X10_putsBack ?_
  intro S hS
  iterate 2 refine hS _ _ _ _ ?_
  refine lp_up (T := fun i => ∀ M', (∀ k, k ≠ 31 → M' k = M k) → (∀ j, (j < i ∨ 86 ≤ j) → M' 31 0 0 j = g j) → S 2 [some (.inr (30, 0, 0)), some (.inl (nI i))] [] M') (N := 86) ?_ ?_ 0 (Nat.zero_le _) M (fun _ _ => rfl) (fun j h => h2 j (by omega))
  · intro M' a1 a2
    iterate 3 refine hS _ _ _ _ ?_
    refine And.intro (fun h5 => ?_) (fun h5 => ?_)
    · refine hS _ _ _ _ ?_
      exact hQ M' a1 (funext fun j => a2 j (by omega))
    · exact (lp_x (n := 86) rfl h5).elim
  · intro i hi ih M' a1 a2
    have e38 : M' 38 = M 38 := a1 38 (by decide)
    iterate 3 refine hS _ _ _ _ ?_
    refine And.intro (fun h5 => ?_) (fun h5 => ?_)
    · exact (lp_s (n := 86) rfl hi (by omega) h5).elim
    · iterate 7 refine hS _ _ _ _ ?_
      refine ⟨(by first | assumption | exact vp_in_nI (by simp only [alen]; omega) (by decide)), ?_⟩
      try rw [nI_clamp (by omega)]
      refine hS _ _ _ _ ?_
      refine ⟨(by first | assumption | exact vp_in_nI (by simp only [alen]; omega) (by decide)), ?_⟩
      try rw [nI_clamp (by omega)]
      iterate 2 refine hS _ _ _ _ ?_
      have := ih (mu M' 31 0 0 i (M' 38 0 0 i)) (fun k hk => (mz_k hk).trans (a1 k hk)) (fun j hj => by
        by_cases z : j = i
        · subst z; rw [mz_at, e38]; exact h1 j hi
        · rw [upd_mu, upd_ne z]; exact a2 j (by omega))
      rw [nI_succ] at this
      exact this
theorem sm_homeBy {m : Nat} {f g : FA} (hd : 7 ≤ d) (hp : p < cP f) (hf : M 31 0 0 = f) (hN : NM K f) (hK : K + m ≤ 90000) (hm : m < 1000) (h38 : ∀ i, i < 86 → M 38 0 0 i = g i) (hg : ∀ i, 86 ≤ i → f i = g i)
    (hQ : ∀ M', (∀ k, k ≠ 31 → k ≠ 35 → k ≠ 56 → k ≠ 57 → M' k = M k) → M' 31 0 0 = g → Q (some (.inl (nI (hbF f p 0 (m + 1))))) M') : Td PR d 173 [.inr (30, 0, 0), .inl (nI p), .inl (nI m)] M Q := by
  have hp9 := hN.1.2.2.2.1
  generalize hR : hbF f p 0 (m + 1) = R at hQ
  obtain ⟨e, rfl⟩ : ∃ e, d = e + 1 := ⟨d - 1, by omega⟩
  refine td_X10_homeBy ?_
  intro S hS
  have ex : ∀ M' k, (∀ k, k ≠ 31 → k ≠ 35 → k ≠ 56 → k ≠ 57 → M' k = M k) → M' 31 0 0 = nightsF f k → k = R → S 25 [some (.inr (30, 0, 0)), some (.inl (nI p)), some (.inl (nI m)), some (.inl (nI k))] [] M' := by
    intro M' k a1 a2 a3
    subst a3
    have e38 : M' 38 = M 38 := a1 38 (by decide) (by decide) (by decide) (by decide)
    iterate 2 refine hS _ _ _ _ ?_
    refine sm_putsBack (g := g) (by omega) (fun i hi => by rw [e38]; exact h38 i hi) (fun i hi => by rw [a2, (nights_kn hN k).2.2.2.2 i hi]; exact hg i hi) (fun M2 b1 b2 => ?_)
    iterate 2 refine hS _ _ _ _ ?_
    exact hQ M2 (fun k c1 c2 c3 c4 => (b1 k c1).trans (a1 k c1 c2 c3 c4)) b2
  have lp : ∀ n k, k + n = m + 1 → hbF f p k n = R → ∀ M', (∀ k, k ≠ 31 → k ≠ 35 → k ≠ 56 → k ≠ 57 → M' k = M k) → M' 31 0 0 = nightsF f k → S 2 [some (.inr (30, 0, 0)), some (.inl (nI p)), some (.inl (nI m)), some (.inl (nI k))] [] M' := by
    intro n
    induction n with
    | zero =>
      intro k hk hr M' a1 a2
      iterate 3 refine hS _ _ _ _ ?_
      refine And.intro (fun h4 => ?_) (fun h4 => ?_)
      · exact ex M' k a1 a2 hr
      · exact absurd (nI_lt (show m < k by omega) (by omega)) h4
    | succ n ih =>
      intro k hk hr M' a1 a2
      have hNk := nights_nm hN k
      have hN2 : NM (K + k) (M' 31 0 0) := by rw [a2]; exact hNk
      iterate 3 refine hS _ _ _ _ ?_
      refine And.intro (fun h4 => ?_) (fun h4 => ?_)
      · exact absurd h4 (nI_nlt (by omega) (by omega))
      · iterate 3 refine hS _ _ _ _ ?_
        refine sm_isHome (by omega) (by omega) ?_
        refine hS _ _ _ _ ?_
        refine And.intro (fun h12 => ?_) (fun h12 => ?_)
        · replace h12 := bI_t h12
          rw [a2] at h12
          rw [hbF_t h12] at hr
          exact ex M' k a1 a2 hr
        · replace h12 := bI_f h12
          rw [a2] at h12
          rw [hbF_f h12] at hr
          iterate 2 refine hS _ _ _ _ ?_
          refine sm_night (by omega) hN2 (by omega) (fun M2 b1 b2 => ?_)
          iterate 2 refine hS _ _ _ _ ?_
          have := ih (k + 1) (by omega) hr M2 (fun k c1 c2 c3 c4 => (b1 k c1 c2 c3 c4).trans (a1 k c1 c2 c3 c4)) (by rw [b2, a2]; rfl)
          rw [nI_succ] at this
          exact this
  iterate 2 refine hS _ _ _ _ ?_
  exact lp (m + 1) 0 (by omega) hR M (fun _ _ _ _ _ => rfl) hf
end W16
