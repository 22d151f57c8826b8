-- 32.pure3: the class's small methods: beds, folk, lands' queries
theorem nlt_le {x y : Int32} (h : ¬ x < y) : y ≤ x := Int32.not_lt.mp h
theorem nle_lt {x y : Int32} (h : ¬ x ≤ y) : y < x := Int32.not_le.mp h
theorem mabs (x : Int32) : (if 0 ≤ x then x else 0 - x) = absI x := by
  unfold absI
  by_cases h : 0 ≤ x
  · rw [if_pos h, if_neg (Int32.not_lt.mpr h)]
  · rw [if_neg h, if_pos (nle_lt h), Int32.zero_sub]
theorem qv {Q : PQ} {M : Mem} {w v : Int32} (h : Q (some (.inl w)) M) (e : w = v) : Q (some (.inl v)) M := e ▸ h
theorem one_ne0 : ¬ (1 : Int32) = 0 := by decide
theorem i32_add0 (x : Int32) : x + 0 = x := Int32.add_zero x
theorem slv {S : CF} {pc : Nat} {lv lv' : LV} {st : List AV} {M : Mem} (h : S pc lv st M) (e : lv = lv') : S pc lv' st M := e ▸ h
section W3
variable {d l b p : Nat} {M : Mem} {Q : PQ} {f : FA}
theorem sp_wide (hd : 1 ≤ d) (hQ : Q (some (.inl (wideI (M 3 l b 0)))) M) : Td PR d 2 [.inr (3, l, b)] M Q := by
  obtain ⟨e, rfl⟩ : ∃ e, d = e + 1 := ⟨d - 1, by omega⟩
  refine td_X0_wide ?_
  intro S hS
  iterate 3 refine hS _ _ _ _ ?_
  refine And.intro (fun h4_2 => ?_) (fun h4_2 => ?_)
  · iterate 2 refine hS _ _ _ _ ?_
    refine qv hQ ?_
    simp_all [wideI]
  refine And.intro (fun h4_3 => ?_) (fun h4_3 => ?_)
  · iterate 2 refine hS _ _ _ _ ?_
    refine qv hQ ?_
    simp_all [wideI]
  refine And.intro (fun h4_4 => ?_) (fun h4_4 => ?_)
  · iterate 2 refine hS _ _ _ _ ?_
    refine qv hQ ?_
    simp_all [wideI]
  refine And.intro (fun h4_5 => ?_) (fun h4_5 => ?_)
  · iterate 2 refine hS _ _ _ _ ?_
    refine qv hQ ?_
    simp_all [wideI]
  iterate 2 refine hS _ _ _ _ ?_
  refine qv hQ ?_
  simp_all [wideI]
theorem sp_takes {m n : Int32} (hd : 1 ≤ d) (hQ : Q (some (.inl (takesI (M 3 l b 0) (M 3 l b 1) (M 3 l b 2) (M 3 l b 3) m n))) M) : Td PR d 3 [.inr (3, l, b), .inl m, .inl n] M Q := by
  obtain ⟨e, rfl⟩ : ∃ e, d = e + 1 := ⟨d - 1, by omega⟩
  refine td_X0_takes ?_
  intro S hS
  iterate 4 refine hS _ _ _ _ ?_
  refine And.intro (fun h5 => ?_) (fun h5 => ?_)
  · iterate 4 refine hS _ _ _ _ ?_
    refine And.intro (fun h23 => ?_) (fun h23 => ?_)
    · iterate 3 refine hS _ _ _ _ ?_
      refine qv hQ ?_
      simp_all [takesI]
    · iterate 3 refine hS _ _ _ _ ?_
      refine ⟨by decide, ?_⟩
      refine hS _ _ _ _ ?_
      refine And.intro (fun h29 => ?_) (fun h29 => ?_)
      · iterate 3 refine hS _ _ _ _ ?_
        refine qv hQ ?_
        simp_all [takesI]
      · iterate 3 refine hS _ _ _ _ ?_
        refine qv hQ ?_
        simp_all [takesI]
  · iterate 3 refine hS _ _ _ _ ?_
    refine And.intro (fun h10 => ?_) (fun h10 => ?_)
    · iterate 4 refine hS _ _ _ _ ?_
      refine And.intro (fun h23 => ?_) (fun h23 => ?_)
      · iterate 3 refine hS _ _ _ _ ?_
        refine qv hQ ?_
        simp_all [takesI]
      · iterate 3 refine hS _ _ _ _ ?_
        refine ⟨by decide, ?_⟩
        refine hS _ _ _ _ ?_
        refine And.intro (fun h29 => ?_) (fun h29 => ?_)
        · iterate 3 refine hS _ _ _ _ ?_
          refine qv hQ ?_
          simp_all [takesI]
        · iterate 3 refine hS _ _ _ _ ?_
          refine qv hQ ?_
          simp_all [takesI]
    · iterate 3 refine hS _ _ _ _ ?_
      refine qv hQ ?_
      simp_all [takesI]
theorem sp_leads (hd : 1 ≤ d) (hQ : Q (some (.inl (leadsI (M 3 l b 0) (M 3 l b 2) (M 3 l b 3)))) M) : Td PR d 4 [.inr (3, l, b)] M Q := by
  obtain ⟨e, rfl⟩ : ∃ e, d = e + 1 := ⟨d - 1, by omega⟩
  refine td_X0_leads ?_
  intro S hS
  iterate 4 refine hS _ _ _ _ ?_
  refine And.intro (fun h5 => ?_) (fun h5 => ?_)
  · iterate 5 refine hS _ _ _ _ ?_
    refine qv hQ ?_
    simp_all [leadsI]
  · iterate 11 refine hS _ _ _ _ ?_
    refine qv hQ ?_
    simp_all [leadsI]
theorem sp_worth (hd : 1 ≤ d) (hQ : Q (some (.inl (worthI (M 3 l b 0) (M 3 l b 1) (M 3 l b 2) (M 3 l b 3)))) M) : Td PR d 5 [.inr (3, l, b)] M Q := by
  obtain ⟨e, rfl⟩ : ∃ e, d = e + 1 := ⟨d - 1, by omega⟩
  refine td_X0_worth ?_
  intro S hS
  have hm := mabs (M 3 l b 1 - M 3 l b 2)
  iterate 6 refine hS _ _ _ _ ?_
  iterate 4 refine hS _ _ _ _ ?_
  refine And.intro (fun h17_1 => ?_) (fun h17_1 => ?_)
  · iterate 4 refine hS _ _ _ _ ?_
    refine qv hQ ?_
    unfold worthI
    rw [← hm]
    simp_all
  refine And.intro (fun h17_2 => ?_) (fun h17_2 => ?_)
  · iterate 4 refine hS _ _ _ _ ?_
    refine qv hQ ?_
    unfold worthI
    rw [← hm]
    simp_all
  refine And.intro (fun h17_3 => ?_) (fun h17_3 => ?_)
  · iterate 6 refine hS _ _ _ _ ?_
    refine qv hQ ?_
    unfold worthI
    rw [← hm]
    simp_all
  refine And.intro (fun h17_4 => ?_) (fun h17_4 => ?_)
  · iterate 7 refine hS _ _ _ _ ?_
    refine qv hQ ?_
    unfold worthI
    rw [← hm]
    simp_all
  refine And.intro (fun h17_5 => ?_) (fun h17_5 => ?_)
  · iterate 2 refine hS _ _ _ _ ?_
    refine qv hQ ?_
    unfold worthI
    rw [← hm]
    simp_all
  iterate 2 refine hS _ _ _ _ ?_
  refine qv hQ ?_
  unfold worthI
  rw [← hm]
  simp_all
theorem sp_isOf {o : Int32} (hd : 1 ≤ d) (hQ : Q (some (.inl (bI (undP (M 3 l b 0) o)))) M) : Td PR d 1 [.inr (3, l, b), .inl o] M Q := by
  obtain ⟨e, rfl⟩ : ∃ e, d = e + 1 := ⟨d - 1, by omega⟩
  refine td_X0_isOf ?_
  intro S hS
  iterate 3 refine hS _ _ _ _ ?_
  refine And.intro (fun h4_3 => ?_) (fun h4_3 => ?_)
  · iterate 3 refine hS _ _ _ _ ?_
    refine And.intro (fun h34 => ?_) (fun h34 => ?_)
    · iterate 3 refine hS _ _ _ _ ?_
      refine ⟨rfl, ?_⟩
      first | (refine qv hQ ?_; rw [bI_p]; simp_all [undP]; done) | (refine qv hQ ?_; rw [bI_n]; simp_all [undP]; done) | (refine qv hQ ?_; rw [bI_n]; intro z; simp_all [undP]; done)
    · iterate 3 refine hS _ _ _ _ ?_
      refine And.intro (fun h39 => ?_) (fun h39 => ?_)
      · iterate 3 refine hS _ _ _ _ ?_
        refine ⟨rfl, ?_⟩
        first | (refine qv hQ ?_; rw [bI_p]; simp_all [undP]; done) | (refine qv hQ ?_; rw [bI_n]; simp_all [undP]; done) | (refine qv hQ ?_; rw [bI_n]; intro z; simp_all [undP]; done)
      · iterate 2 refine hS _ _ _ _ ?_
        refine And.intro (fun h43 => ?_) (fun h43 => ?_)
        · iterate 2 refine hS _ _ _ _ ?_
          refine ⟨rfl, ?_⟩
          first | (refine qv hQ ?_; rw [bI_p]; simp_all [undP]; done) | (refine qv hQ ?_; rw [bI_n]; simp_all [undP]; done) | (refine qv hQ ?_; rw [bI_n]; intro z; simp_all [undP]; done)
        · iterate 3 refine hS _ _ _ _ ?_
          refine ⟨rfl, ?_⟩
          first | (refine qv hQ ?_; rw [bI_p]; simp_all [undP]; done) | (refine qv hQ ?_; rw [bI_n]; simp_all [undP]; done) | (refine qv hQ ?_; rw [bI_n]; intro z; simp_all [undP]; done)
  refine And.intro (fun h4_4 => ?_) (fun h4_4 => ?_)
  · iterate 3 refine hS _ _ _ _ ?_
    refine And.intro (fun h54 => ?_) (fun h54 => ?_)
    · iterate 3 refine hS _ _ _ _ ?_
      refine ⟨rfl, ?_⟩
      first | (refine qv hQ ?_; rw [bI_p]; simp_all [undP]; done) | (refine qv hQ ?_; rw [bI_n]; simp_all [undP]; done) | (refine qv hQ ?_; rw [bI_n]; intro z; simp_all [undP]; done)
    · iterate 3 refine hS _ _ _ _ ?_
      refine And.intro (fun h59 => ?_) (fun h59 => ?_)
      · iterate 3 refine hS _ _ _ _ ?_
        refine ⟨rfl, ?_⟩
        first | (refine qv hQ ?_; rw [bI_p]; simp_all [undP]; done) | (refine qv hQ ?_; rw [bI_n]; simp_all [undP]; done) | (refine qv hQ ?_; rw [bI_n]; intro z; simp_all [undP]; done)
      · iterate 2 refine hS _ _ _ _ ?_
        refine And.intro (fun h63 => ?_) (fun h63 => ?_)
        · iterate 2 refine hS _ _ _ _ ?_
          refine ⟨rfl, ?_⟩
          first | (refine qv hQ ?_; rw [bI_p]; simp_all [undP]; done) | (refine qv hQ ?_; rw [bI_n]; simp_all [undP]; done) | (refine qv hQ ?_; rw [bI_n]; intro z; simp_all [undP]; done)
        · iterate 3 refine hS _ _ _ _ ?_
          refine ⟨rfl, ?_⟩
          first | (refine qv hQ ?_; rw [bI_p]; simp_all [undP]; done) | (refine qv hQ ?_; rw [bI_n]; simp_all [undP]; done) | (refine qv hQ ?_; rw [bI_n]; intro z; simp_all [undP]; done)
  iterate 4 refine hS _ _ _ _ ?_
  refine And.intro (fun h77 => ?_) (fun h77 => ?_)
  · iterate 3 refine hS _ _ _ _ ?_
    refine ⟨rfl, ?_⟩
    first | (refine qv hQ ?_; rw [bI_p]; simp_all [undP]; done) | (refine qv hQ ?_; rw [bI_n]; simp_all [undP]; done) | (refine qv hQ ?_; rw [bI_n]; intro z; simp_all [undP]; done)
  · iterate 2 refine hS _ _ _ _ ?_
    refine And.intro (fun h81 => ?_) (fun h81 => ?_)
    · iterate 2 refine hS _ _ _ _ ?_
      refine ⟨rfl, ?_⟩
      first | (refine qv hQ ?_; rw [bI_p]; simp_all [undP]; done) | (refine qv hQ ?_; rw [bI_n]; simp_all [undP]; done) | (refine qv hQ ?_; rw [bI_n]; intro z; simp_all [undP]; done)
    · iterate 3 refine hS _ _ _ _ ?_
      refine ⟨rfl, ?_⟩
      first | (refine qv hQ ?_; rw [bI_p]; simp_all [undP]; done) | (refine qv hQ ?_; rw [bI_n]; simp_all [undP]; done) | (refine qv hQ ?_; rw [bI_n]; intro z; simp_all [undP]; done)
theorem sp_swings (hd : 1 ≤ d) (hQ : Q none (mu (mu M 3 l b 1 (M 3 l b 2)) 3 l b 2 (M 3 l b 1))) : Td PR d 6 [.inr (3, l, b)] M Q := by
  obtain ⟨e, rfl⟩ : ∃ e, d = e + 1 := ⟨d - 1, by omega⟩
  refine td_X0_swings ?_
  intro S hS
  iterate 11 refine hS _ _ _ _ ?_
  exact hQ
theorem sp_bedAs {l' b' : Nat} (hd : 1 ≤ d) (hne : ¬ (l' = l ∧ b' = b)) (hQ : ∀ M', M' 3 l b 0 = M 3 l' b' 0 → M' 3 l b 1 = M 3 l' b' 1 → M' 3 l b 2 = M 3 l' b' 2 → M' 3 l b 3 = M 3 l' b' 3 → (∀ k i j, ¬ (k = 3 ∧ i = l ∧ j = b) → M' k i j = M k i j) → Q none M') : Td PR d 0 [.inr (3, l, b), .inr (3, l', b')] M Q := by
  have hne2 : ¬ (3 = 3 ∧ l' = l ∧ b' = b) := fun z => hne z.2
  obtain ⟨e, rfl⟩ : ∃ e, d = e + 1 := ⟨d - 1, by omega⟩
  refine td_X0_becomeAs ?_
  intro S hS
  iterate 17 refine hS _ _ _ _ ?_
  refine hQ _ ?_ ?_ ?_ ?_ ?_
  · simp [mu, mr, upd]
  · simp [mu, mr, upd, hne]
  · simp [mu, mr, upd, hne]
  · simp [mu, mr, upd, hne]
  · intro k i j z; simp only [mu]; rw [mr_ne z, mr_ne z, mr_ne z, mr_ne z]
theorem sp_oneAs {l' b' : Nat} (hd : 1 ≤ d) (hne : ¬ (l' = l ∧ b' = b)) (hQ : ∀ M', M' 5 l b 0 = M 5 l' b' 0 → M' 5 l b 1 = M 5 l' b' 1 → M' 5 l b 2 = M 5 l' b' 2 → M' 5 l b 3 = M 5 l' b' 3 → (∀ k i j, ¬ (k = 5 ∧ i = l ∧ j = b) → M' k i j = M k i j) → Q none M') : Td PR d 30 [.inr (5, l, b), .inr (5, l', b')] M Q := by
  obtain ⟨e, rfl⟩ : ∃ e, d = e + 1 := ⟨d - 1, by omega⟩
  refine td_X3_becomeAs ?_
  intro S hS
  iterate 17 refine hS _ _ _ _ ?_
  refine hQ _ ?_ ?_ ?_ ?_ ?_
  · simp [mu, mr, upd]
  · simp [mu, mr, upd, hne]
  · simp [mu, mr, upd, hne]
  · simp [mu, mr, upd, hne]
  · intro k i j z; simp only [mu]; rw [mr_ne z, mr_ne z, mr_ne z, mr_ne z]
theorem sp_draw (hd : 1 ≤ d) (hQ : Q (some (.inl (ushr8 (M 1 l 0 11 * 1103515245 + 12345)))) (mu M 1 l 0 11 (M 1 l 0 11 * 1103515245 + 12345))) : Td PR d 10 [.inr (1, l, 0)] M Q := by
  obtain ⟨e, rfl⟩ : ∃ e, d = e + 1 := ⟨d - 1, by omega⟩
  refine td_X1_draw ?_
  intro S hS
  have e1 : mu M 1 l 0 11 (M 1 l 0 11 * 1103515245 + 12345) 1 l 0 11 = M 1 l 0 11 * 1103515245 + 12345 := mz_at
  iterate 13 refine hS _ _ _ _ ?_
  exact qv hQ (congrArg ushr8 e1.symm)
theorem sp_presentIn {town : Int32} (hd : 1 ≤ d) (hL : LL M l f) (hQ : Q (some (.inl (thereF f town (cP f)))) M) : Td PR d 13 [.inr (1, l, 0), .inl town] M Q := by
  obtain ⟨e, rfl⟩ : ∃ e, d = e + 1 := ⟨d - 1, by omega⟩
  refine td_X1_presentIn ?_
  intro S hS
  have hp := hL.p9
  iterate 4 refine hS _ _ _ _ ?_
  refine lp_up (T := fun i => S 4 [some (.inr (1, l, 0)), some (.inl town), some (.inl (thereF f town i)), some (.inl (nI i))] [] M) (N := cP f) ?_ ?_ 0 (Nat.zero_le _)
  · iterate 4 refine hS _ _ _ _ ?_
    refine And.intro (fun h9 => ?_) (fun h9 => ?_)
    · iterate 2 refine hS _ _ _ _ ?_
      exact hQ
    · exact (lp_x hL.pc h9).elim
  · intro i hi ih
    rw [nI_succ] at ih
    have e0 := hL.town hi
    have e3 := hL.gone hi
    iterate 4 refine hS _ _ _ _ ?_
    refine And.intro (fun h9 => ?_) (fun h9 => ?_)
    · exact (lp_s hL.pc hi (by omega) h9).elim
    · iterate 4 refine hS _ _ _ _ ?_
      refine ⟨(by first | assumption | exact vp_in_nI (by simp only [alen]; omega) (by decide)), ?_⟩
      try rw [nI_clamp (by omega)]
      iterate 3 refine hS _ _ _ _ ?_
      refine And.intro (fun h22 => ?_) (fun h22 => ?_)
      · iterate 2 refine hS _ _ _ _ ?_
        refine slv ih ?_
        simp_all [thereF]
      · iterate 4 refine hS _ _ _ _ ?_
        refine ⟨(by first | assumption | exact vp_in_nI (by simp only [alen]; omega) (by decide)), ?_⟩
        try rw [nI_clamp (by omega)]
        iterate 2 refine hS _ _ _ _ ?_
        refine And.intro (fun h34 => ?_) (fun h34 => ?_)
        · iterate 2 refine hS _ _ _ _ ?_
          refine slv ih ?_
          simp_all [thereF]
        · iterate 3 refine hS _ _ _ _ ?_
          refine slv ih ?_
          simp_all [thereF]
end W3
