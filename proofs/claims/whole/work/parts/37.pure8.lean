-- 37.pure8: the reference's night, walked
theorem upd_mu {M : Mem} {k i j s : Nat} {v : Int32} : mu M k i j s v k i j = upd (M k i j) s v := mu_at M k i j s v
section W8
variable {d b p K : Nat} {M : Mem} {Q : PQ}
theorem sm_hoursGive (hd : 3 ≤ d) (hp : p < cP (M 31 0 0)) (hN : NM K (M 31 0 0)) (hQ : ∀ M', (∀ k, k ≠ 56 → k ≠ 57 → M' k = M k) → Q (some (.inl (hoursF (M 31 0 0) p))) M') : Td PR d 148 [.inr (30, 0, 0), .inl (nI p)] M Q := by
  have hp9 := hN.1.2.2.2.1
  generalize hW : hoursF (M 31 0 0) p = W at hQ
  unfold hoursF at hW
  obtain ⟨e, rfl⟩ : ∃ e, d = e + 1 := ⟨d - 1, by omega⟩
  refine td_X10_hoursGive ?_
  intro S hS
  iterate 3 refine hS _ _ _ _ ?_
  refine sm_counts (by omega) hN.1 ?_
  iterate 6 refine hS _ _ _ _ ?_
  refine sm_by0 (by omega) (by omega) ?_
  refine hS _ _ _ _ ?_
  refine sm_thereIn (by omega) hN.1 ?_
  iterate 8 refine hS _ _ _ _ ?_
  refine sm_by2 (by omega) (by omega) ?_
  refine hS _ _ _ _ ?_
  refine ⟨vp_l rfl, ?_⟩
  try rw [show Int32.toNatClampNeg 0 = 0 from rfl]
  iterate 7 refine hS _ _ _ _ ?_
  refine ⟨vp_l rfl, ?_⟩
  try rw [show Int32.toNatClampNeg 2 = 2 from rfl]
  refine hS _ _ _ _ ?_
  refine ⟨vp_l rfl, ?_⟩
  try rw [show Int32.toNatClampNeg 1 = 1 from rfl]
  iterate 5 refine hS _ _ _ _ ?_
  refine ⟨vp_l rfl, ?_⟩
  try rw [show Int32.toNatClampNeg 2 = 2 from rfl]
  iterate 2 refine hS _ _ _ _ ?_
  refine And.intro (fun h49 => ?_) (fun h49 => ?_)
  · rcases counts_c (f := M 31 0 0) (ky := 0) (cT (M 31 0 0)) with z | ⟨t, t1, t2, t3⟩
    · exact absurd h49 (by rw [z]; decide)
    have h14 := hN.1.2.2.2.2.2
    obtain ⟨ky, k1, k2, k3⟩ := (hN.2.1 t t1).use
    rw [t2] at hW ⊢
    rw [if_neg (nI_pos (by omega)), nI_clamp (by omega)] at hW
    iterate 3 refine hS _ _ _ _ ?_
    refine sm_worksOut (M := mu (mu (mu M 57 0 0 0 (M 31 0 0 (52 + 4 * p))) 57 0 0 1 (M 31 0 0 2)) 57 0 0 2 (thereF (M 31 0 0) (M 31 0 0 (50 + 4 * p)) (cP (M 31 0 0)))) (by omega) (by omega) k1 k2 k3 (fun M' hF => ?_)
    iterate 3 refine hS _ _ _ _ ?_
    refine sm_within (by omega) ?_
    refine hS _ _ _ _ ?_
    first | (refine qv (hQ _ ?_) hW.symm; intro k k1 k2; exact (hF k k1).trans ((mz_k k2).trans ((mz_k k2).trans (mz_k k2)))) | (refine qv (hQ _ ?_) hW.symm; intro k k1 k2; exact (mz_k k2).trans ((mz_k k2).trans (mz_k k2)))
  · rw [if_pos (nle_lt h49)] at hW
    iterate 3 refine hS _ _ _ _ ?_
    first | (refine qv (hQ _ ?_) hW.symm; intro k k1 k2; exact (hF k k1).trans ((mz_k k2).trans ((mz_k k2).trans (mz_k k2)))) | (refine qv (hQ _ ?_) hW.symm; intro k k1 k2; exact (mz_k k2).trans ((mz_k k2).trans (mz_k k2)))
theorem sm_bedFor {g : Nat → Nat} (hd : 4 ≤ d) (hp : p < cP (M 31 0 0)) (hN : NM K (M 31 0 0)) (hg : ∀ b, g b < 512) (hG : ∀ b, b < cB (M 31 0 0) → M 35 0 0 b = nI (g b)) (hQ : ∀ M', (∀ k, k ≠ 56 → k ≠ 57 → M' k = M k) → Q (some (.inl (bedF (M 31 0 0) g p))) M') : Td PR d 153 [.inr (30, 0, 0), .inl (nI p)] M Q := by
  have hp9 := hN.1.2.2.2.1
  have hb10 := hN.1.2.1
  generalize hW : bedF (M 31 0 0) g p = W at hQ
  unfold bedF at hW
  obtain ⟨e, rfl⟩ : ∃ e, d = e + 1 := ⟨d - 1, by omega⟩
  refine td_X10_bedFor ?_
  intro S hS
  have lp : ∀ M', (∀ k, k ≠ 56 → k ≠ 57 → M' k = M k) → freeF (M 31 0 0) g (M 31 0 0 (50 + 4 * p)) 0 (cB (M 31 0 0)) = W → S 12 [some (.inr (30, 0, 0)), some (.inl (nI p)), some (.inl 0)] [] M' := by
    intro M' hF hW
    have e31 : M' 31 = M 31 := hF 31 (by decide) (by decide)
    have e35 : M' 35 = M 35 := hF 35 (by decide) (by decide)
    have e1 : M' 31 0 0 1 = nI (cB (M 31 0 0)) := by rw [e31]; exact hN.1.1
    refine lp_up (T := fun i => freeF (M 31 0 0) g (M 31 0 0 (50 + 4 * p)) i (cB (M 31 0 0) - i) = W → S 12 [some (.inr (30, 0, 0)), some (.inl (nI p)), some (.inl (nI i))] [] M') (N := cB (M 31 0 0)) ?_ ?_ 0 (Nat.zero_le _) hW
    · intro hW
      rw [Nat.sub_self] at hW
      iterate 5 refine hS _ _ _ _ ?_
      refine ⟨vp_l rfl, ?_⟩
      try rw [show Int32.toNatClampNeg 1 = 1 from rfl]
      refine hS _ _ _ _ ?_
      refine And.intro (fun h19 => ?_) (fun h19 => ?_)
      · iterate 2 refine hS _ _ _ _ ?_
        exact qv (hQ _ hF) hW.symm
      · exact (lp_x e1 h19).elim
    · intro i hi ih hW
      have es : cB (M 31 0 0) - i = (cB (M 31 0 0) - (i + 1)) + 1 := by omega
      rw [es, freeF_s] at hW
      have hgi := hG i hi
      rw [← e35] at hgi
      iterate 5 refine hS _ _ _ _ ?_
      refine ⟨vp_l rfl, ?_⟩
      try rw [show Int32.toNatClampNeg 1 = 1 from rfl]
      refine hS _ _ _ _ ?_
      refine And.intro (fun h19 => ?_) (fun h19 => ?_)
      · exact (lp_s e1 hi (by omega) h19).elim
      · iterate 4 refine hS _ _ _ _ ?_
        refine sm_of1 (by omega) (by omega) ?_
        iterate 4 refine hS _ _ _ _ ?_
        refine sm_by0 (by omega) (by omega) ?_
        refine hS _ _ _ _ ?_
        refine And.intro (fun h34 => ?_) (fun h34 => ?_)
        · rw [e31] at h34
          rw [if_neg (fun z => h34 z.1)] at hW
          iterate 2 refine hS _ _ _ _ ?_
          have := ih hW
          rw [nI_succ] at this
          exact this
        · iterate 4 refine hS _ _ _ _ ?_
          refine ⟨(by first | assumption | exact vp_in_nI (by simp only [alen]; omega) (by decide)), ?_⟩
          try rw [nI_clamp (by omega)]
          refine hS _ _ _ _ ?_
          rw [hgi]
          refine sm_manyOf (by omega) (hg i) ?_
          iterate 3 refine hS _ _ _ _ ?_
          refine sm_wideOf (by omega) (by omega) ?_
          refine hS _ _ _ _ ?_
          refine And.intro (fun h51 => ?_) (fun h51 => ?_)
          · rw [e31] at h51
            rw [if_neg (fun z => Int32.not_lt.mpr h51 z.2)] at hW
            iterate 2 refine hS _ _ _ _ ?_
            have := ih hW
            rw [nI_succ] at this
            exact this
          · rw [e31] at h34 h51
            rw [if_pos ⟨h34, nle_lt h51⟩] at hW
            iterate 2 refine hS _ _ _ _ ?_
            exact qv (hQ _ hF) hW.symm
  iterate 3 refine hS _ _ _ _ ?_
  refine sm_hoursGive (by omega) hp hN (fun M' hF => ?_)
  refine hS _ _ _ _ ?_
  refine And.intro (fun h5 => ?_) (fun h5 => ?_)
  · rw [if_neg h5] at hW
    iterate 2 refine hS _ _ _ _ ?_
    exact lp M' hF hW
  · rw [if_pos h5] at hW
    iterate 2 refine hS _ _ _ _ ?_
    exact qv (hQ _ hF) hW.symm
theorem sm_liesDown {g : Nat → Nat} (hd : 5 ≤ d) (hp : p < cP (M 31 0 0)) (hN : NM K (M 31 0 0)) (h3 : M 31 0 0 (53 + 4 * p) = 0) (hg : ∀ b, g b < 512) (hG : ∀ b, b < cB (M 31 0 0) → M 35 0 0 b = nI (g b))
    (hQ : ∀ M', (∀ k, k ≠ 31 → k ≠ 35 → k ≠ 56 → k ≠ 57 → M' k = M k) → M' 31 0 0 = (lieF (M 31 0 0, g) p).1 → (∀ b, b < cB (M 31 0 0) → M' 35 0 0 b = nI ((lieF (M 31 0 0, g) p).2 b)) → Q none M') : Td PR d 154 [.inr (30, 0, 0), .inl (nI p)] M Q := by
  have hp9 := hN.1.2.2.2.1
  have hb10 := hN.1.2.1
  generalize hW : lieF (M 31 0 0, g) p = W at hQ
  unfold lieF at hW
  rw [if_pos h3] at hW
  obtain ⟨e, rfl⟩ : ∃ e, d = e + 1 := ⟨d - 1, by omega⟩
  refine td_X10_liesDown ?_
  intro S hS
  iterate 3 refine hS _ _ _ _ ?_
  refine sm_bedFor (by omega) hp hN hg hG (fun M' hF => ?_)
  have e31 : M' 31 = M 31 := hF 31 (by decide) (by decide)
  have e35 : M' 35 = M 35 := hF 35 (by decide) (by decide)
  iterate 3 refine hS _ _ _ _ ?_
  refine And.intro (fun h7 => ?_) (fun h7 => ?_)
  · rw [if_pos h7] at hW
    iterate 5 refine hS _ _ _ _ ?_
    refine ⟨vp_l rfl, ?_⟩
    try rw [show Int32.toNatClampNeg 6 = 6 from rfl]
    iterate 3 refine hS _ _ _ _ ?_
    refine ⟨vp_l rfl, ?_⟩
    try rw [show Int32.toNatClampNeg 6 = 6 from rfl]
    iterate 7 refine hS _ _ _ _ ?_
    refine sm_by2 (by omega) (by omega) ?_
    iterate 5 refine hS _ _ _ _ ?_
    refine sm_within (by omega) ?_
    refine hS _ _ _ _ ?_
    refine sm_lays2 (by omega) (by omega) ?_
    refine hS _ _ _ _ ?_
    refine hQ _ ?_ ?_ ?_
    · intro k k1 k2 k3 k4
      exact (mz_k k1).trans ((mz_k k1).trans (hF k k3 k4))
    · rw [← hW]
      have e52 : upd (M 31 0 0) 6 (M 31 0 0 6 + 1) (52 + 4 * p) = M 31 0 0 (52 + 4 * p) := upd_ne (by omega)
      show _ = upd (upd (M 31 0 0) 6 (M 31 0 0 6 + 1)) (52 + 4 * p) (clamp (M 31 0 0 (52 + 4 * p) + 1) 0 9)
      rw [upd_mu, ← e52]
      rw [upd_mu, e31]
    · intro b hb
      rw [← hW]
      show M' 35 0 0 b = _
      rw [e35]
      exact hG b hb
  · rcases bedF_c (f := M 31 0 0) (g := g) (p := p) with z | ⟨b, b1, b2⟩
    · exact absurd (by rw [z]; decide) h7
    rw [if_neg h7] at hW
    rw [b2] at hW ⊢
    rw [nI_clamp (by omega)] at hW
    have hgb := hG b b1
    rw [← e35] at hgb
    iterate 5 refine hS _ _ _ _ ?_
    refine ⟨(by first | assumption | exact vp_in_nI (by simp only [alen]; omega) (by decide)), ?_⟩
    try rw [nI_clamp (by omega)]
    iterate 5 refine hS _ _ _ _ ?_
    rw [hgb, (orb _ (hg b) p (by omega)).1]
    refine ⟨(by first | assumption | exact vp_in_nI (by simp only [alen]; omega) (by decide)), ?_⟩
    try rw [nI_clamp (by omega)]
    iterate 2 refine hS _ _ _ _ ?_
    refine hQ _ ?_ ?_ ?_
    · intro k k1 k2 k3 k4
      exact (mz_k k2).trans (hF k k3 k4)
    · rw [← hW]
      show M' 31 0 0 = _
      rw [e31]
    · intro c hc
      rw [← hW]
      show _ = nI (updN g b (g b ||| 2 ^ p) c)
      unfold updN
      by_cases z : c = b
      · rw [if_pos z, z, upd_mu, upd_at]
      · rw [if_neg z, upd_mu, upd_ne z, e35]
        exact hG c hc
theorem wakeP_s {s : Nat} {w gn : Int32} {f : FA} {n : Nat} : wakeP s w gn f (n + 1) = if s.testBit n then upd (upd (upd (wakeP s w gn f n) (50 + 4 * n) w) (52 + 4 * n) 0) (53 + 4 * n) gn else wakeP s w gn f n := rfl
theorem sm_wakes {g : Nat → Nat} (hd : 3 ≤ d) (hb : b < cB (M 31 0 0)) (hN : NM K (M 31 0 0)) (hK : K ≤ 100000) (hg : ∀ b, g b < 512) (hG : M 35 0 0 b = nI (g b))
    (hQ : ∀ M', (∀ k, k ≠ 31 → M' k = M k) → M' 31 0 0 = wakeB g (M 31 0 0) b → Q none M') : Td PR d 155 [.inr (30, 0, 0), .inl (nI b)] M Q := by
  have hp9 := hN.1.2.2.2.1
  have hb10 := hN.1.2.1
  have hC := hN.1
  have hn := hN.pos hK
  have hgb := hg b
  generalize hW : wakeB g (M 31 0 0) b = W at hQ
  unfold wakeB at hW
  dsimp only at hW
  generalize hmm : pcnt 9 (g b) = mm at hW
  have hmm9 : mm ≤ 9 := by rw [← hmm]; exact pcnt_le 9 _
  generalize htt : takesF (M 31 0 0) b (nI mm) = tt at hW
  obtain ⟨e, rfl⟩ : ∃ e, d = e + 1 := ⟨d - 1, by omega⟩
  refine td_X10_wakes ?_
  intro S hS
  have lp : ∀ (gn : Int32), gn = (if M 31 0 0 (10 + 4 * b) = 5 then 1 else 0) → S 37 [some (.inr (30, 0, 0)), some (.inl (nI b)), some (.inl (nI mm)), some (.inl tt), some (.inl gn), some (.inl 0)] [] M := by
    intro gn hgn
    have eg : gn = 0 ∨ gn = 1 := by rw [hgn]; split <;> simp
    rw [← hgn] at hW
    refine lp_up (T := fun i => ∀ M', (∀ k, k ≠ 31 → M' k = M k) → M' 31 0 0 = wakeP (g b) tt gn (M 31 0 0) i → S 37 [some (.inr (30, 0, 0)), some (.inl (nI b)), some (.inl (nI mm)), some (.inl tt), some (.inl gn), some (.inl (nI i))] [] M') (N := cP (M 31 0 0)) ?_ ?_ 0 (Nat.zero_le _) M (fun _ _ => rfl) rfl
    · intro M' hF hM
      have e4 : M' 31 0 0 4 = nI (cP (M 31 0 0)) := by rw [hM, wakeP_lo (by omega) _ hp9]; exact hC.2.2.1
      generalize hV : wakeP (g b) tt gn (M 31 0 0) (cP (M 31 0 0)) = V at *
      have v10 : V (10 + 4 * b) = M 31 0 0 (10 + 4 * b) := by rw [← hV]; exact wakeP_lo (by omega) _ hp9
      have v11 : V (11 + 4 * b) = M 31 0 0 (11 + 4 * b) := by rw [← hV]; exact wakeP_lo (by omega) _ hp9
      have v12 : V (12 + 4 * b) = M 31 0 0 (12 + 4 * b) := by rw [← hV]; exact wakeP_lo (by omega) _ hp9
      have r10 : ∀ x y, upd (upd V 5 x) 7 y (10 + 4 * b) = V (10 + 4 * b) := fun x y => by rw [upd_ne (by omega), upd_ne (by omega)]
      have r11 : ∀ x y, upd (upd V 5 x) 7 y (11 + 4 * b) = V (11 + 4 * b) := fun x y => by rw [upd_ne (by omega), upd_ne (by omega)]
      have r12 : ∀ x y, upd (upd V 5 x) 7 y (12 + 4 * b) = V (12 + 4 * b) := fun x y => by rw [upd_ne (by omega), upd_ne (by omega)]
      have r12b : ∀ x y z, upd (upd (upd V 5 x) 7 y) (11 + 4 * b) z (12 + 4 * b) = V (12 + 4 * b) := fun x y z => by rw [upd_ne (by omega), upd_ne (by omega), upd_ne (by omega)]
      iterate 5 refine hS _ _ _ _ ?_
      refine ⟨vp_l rfl, ?_⟩
      try rw [show Int32.toNatClampNeg 4 = 4 from rfl]
      refine hS _ _ _ _ ?_
      refine And.intro (fun h45 => ?_) (fun h45 => ?_)
      · iterate 5 refine hS _ _ _ _ ?_
        refine ⟨vp_l rfl, ?_⟩
        try rw [show Int32.toNatClampNeg 5 = 5 from rfl]
        iterate 3 refine hS _ _ _ _ ?_
        refine ⟨vp_l rfl, ?_⟩
        try rw [show Int32.toNatClampNeg 5 = 5 from rfl]
        iterate 5 refine hS _ _ _ _ ?_
        refine ⟨vp_l rfl, ?_⟩
        try rw [show Int32.toNatClampNeg 7 = 7 from rfl]
        iterate 2 refine hS _ _ _ _ ?_
        refine And.intro (fun h122 => ?_) (fun h122 => ?_)
        · have hk5 : ¬ M 31 0 0 (10 + 4 * b) = 5 := fun z => by rw [hgn, if_pos z] at h122; exact absurd h122 (by decide)
          rw [if_neg hk5] at hW
          iterate 3 refine hS _ _ _ _ ?_
          refine ⟨vp_l rfl, ?_⟩
          try rw [show Int32.toNatClampNeg 7 = 7 from rfl]
          iterate 2 refine hS _ _ _ _ ?_
          refine And.intro (fun h133 => ?_) (fun h133 => ?_)
          · rw [if_neg (fun z => Int32.not_lt.mpr h133 z.1)] at hW
            refine hS _ _ _ _ ?_
            refine hQ _ ?_ ?_
            · intro k hk
              simp only [mz_k hk]
              exact hF k hk
            · rw [← hW]
              simp only [upd_mu, hM, r11, r12, r12b, v11, v12]
          · iterate 4 refine hS _ _ _ _ ?_
            refine sm_of0 (by omega) (by omega) ?_
            iterate 2 refine hS _ _ _ _ ?_
            refine And.intro (fun h143 => ?_) (fun h143 => ?_)
            · simp only [upd_mu, hM, r10, v10] at h143
              rw [if_neg (fun z => h143 z.2)] at hW
              refine hS _ _ _ _ ?_
              refine hQ _ ?_ ?_
              · intro k hk
                simp only [mz_k hk]
                exact hF k hk
              · rw [← hW]
                simp only [upd_mu, hM, r11, r12, r12b, v11, v12]
            · simp only [upd_mu, hM, r10, v10] at h143
              rw [if_pos ⟨nle_lt h133, h143⟩] at hW
              iterate 4 refine hS _ _ _ _ ?_
              refine sm_of1 (by omega) (by omega) ?_
              iterate 8 refine hS _ _ _ _ ?_
              refine sm_of2 (by omega) (by omega) ?_
              refine hS _ _ _ _ ?_
              refine sm_put1 (by omega) (by omega) ?_
              iterate 5 refine hS _ _ _ _ ?_
              refine sm_put2 (by omega) (by omega) ?_
              refine hS _ _ _ _ ?_
              refine hQ _ ?_ ?_
              · intro k hk
                simp only [mz_k hk]
                exact hF k hk
              · rw [← hW]
                simp only [upd_mu, hM, r11, r12, r12b, v11, v12]
        · have hk5 : M 31 0 0 (10 + 4 * b) = 5 := by
            by_cases z : M 31 0 0 (10 + 4 * b) = 5
            · exact z
            · rw [hgn, if_neg z] at h122; exact absurd rfl h122
          rw [if_pos hk5] at hW
          iterate 4 refine hS _ _ _ _ ?_
          refine ⟨vp_l rfl, ?_⟩
          try rw [show Int32.toNatClampNeg 7 = 7 from rfl]
          iterate 2 refine hS _ _ _ _ ?_
          refine And.intro (fun h133 => ?_) (fun h133 => ?_)
          · rw [if_neg (fun z => Int32.not_lt.mpr h133 z.1)] at hW
            refine hS _ _ _ _ ?_
            refine hQ _ ?_ ?_
            · intro k hk
              simp only [mz_k hk]
              exact hF k hk
            · rw [← hW]
              simp only [upd_mu, hM, r11, r12, r12b, v11, v12]
          · iterate 4 refine hS _ _ _ _ ?_
            refine sm_of0 (by omega) (by omega) ?_
            iterate 2 refine hS _ _ _ _ ?_
            refine And.intro (fun h143 => ?_) (fun h143 => ?_)
            · simp only [upd_mu, hM, r10, v10] at h143
              rw [if_neg (fun z => h143 z.2)] at hW
              refine hS _ _ _ _ ?_
              refine hQ _ ?_ ?_
              · intro k hk
                simp only [mz_k hk]
                exact hF k hk
              · rw [← hW]
                simp only [upd_mu, hM, r11, r12, r12b, v11, v12]
            · simp only [upd_mu, hM, r10, v10] at h143
              rw [if_pos ⟨nle_lt h133, h143⟩] at hW
              iterate 4 refine hS _ _ _ _ ?_
              refine sm_of1 (by omega) (by omega) ?_
              iterate 8 refine hS _ _ _ _ ?_
              refine sm_of2 (by omega) (by omega) ?_
              refine hS _ _ _ _ ?_
              refine sm_put1 (by omega) (by omega) ?_
              iterate 5 refine hS _ _ _ _ ?_
              refine sm_put2 (by omega) (by omega) ?_
              refine hS _ _ _ _ ?_
              refine hQ _ ?_ ?_
              · intro k hk
                simp only [mz_k hk]
                exact hF k hk
              · rw [← hW]
                simp only [upd_mu, hM, r11, r12, r12b, v11, v12]
      · exact (lp_x e4 h45).elim
    · intro i hi ih M' hF hM
      have e4 : M' 31 0 0 4 = nI (cP (M 31 0 0)) := by rw [hM, wakeP_lo (by omega) _ (by omega)]; exact hC.2.2.1
      have tb := tbb (g b) hgb i (by omega)
      have e35 : M' 35 0 0 b = nI (g b) := by rw [hF 35 (by decide)]; exact hG
      have go : ∀ M2, (∀ k, k ≠ 31 → M2 k = M' k) → M2 31 0 0 = wakeP (g b) tt gn (M 31 0 0) (i + 1) → S 37 [some (.inr (30, 0, 0)), some (.inl (nI b)), some (.inl (nI mm)), some (.inl tt), some (.inl gn), some (.inl (nI i + 1))] [] M2 := by
        intro M2 a1 a2
        have := ih M2 (fun k hk => (a1 k hk).trans (hF k hk)) a2
        rw [nI_succ] at this
        exact this
      iterate 5 refine hS _ _ _ _ ?_
      refine ⟨vp_l rfl, ?_⟩
      try rw [show Int32.toNatClampNeg 4 = 4 from rfl]
      refine hS _ _ _ _ ?_
      refine And.intro (fun h45 => ?_) (fun h45 => ?_)
      · exact (lp_s e4 hi (by omega) h45).elim
      · iterate 4 refine hS _ _ _ _ ?_
        refine ⟨(by first | assumption | exact vp_in_nI (by simp only [alen]; omega) (by decide)), ?_⟩
        try rw [nI_clamp (by omega)]
        iterate 6 refine hS _ _ _ _ ?_
        refine And.intro (fun h60 => ?_) (fun h60 => ?_)
        · rw [e35, tb] at h60
          have ht : ¬ (g b).testBit i = true := fun z => h60 (by rw [if_pos z])
          iterate 2 refine hS _ _ _ _ ?_
          exact go _ (fun _ _ => rfl) (by rw [hM, wakeP_s, if_neg ht])
        · rw [e35, tb] at h60
          have ht : (g b).testBit i = true := by
            by_cases z : (g b).testBit i = true
            · exact z
            · rw [if_neg z] at h60; exact absurd h60 (by decide)
          iterate 5 refine hS _ _ _ _ ?_
          refine sm_lays0 (by omega) (by omega) ?_
          iterate 5 refine hS _ _ _ _ ?_
          refine sm_lays2 (by omega) (by omega) ?_
          iterate 5 refine hS _ _ _ _ ?_
          refine And.intro (fun h85 => ?_) (fun h85 => ?_)
          · iterate 2 refine hS _ _ _ _ ?_
            refine sm_lays3 (by omega) (by omega) ?_
            iterate 2 refine hS _ _ _ _ ?_
            exact go _ (fun k hk => by simp only [mz_k hk]) (by rw [wakeP_s, if_pos ht]; simp only [upd_mu, hM]; rw [h85])
          · iterate 3 refine hS _ _ _ _ ?_
            refine sm_lays3 (by omega) (by omega) ?_
            iterate 2 refine hS _ _ _ _ ?_
            exact go _ (fun k hk => by simp only [mz_k hk]) (by rw [wakeP_s, if_pos ht]; simp only [upd_mu, hM]; rw [eg.resolve_left h85])
  iterate 4 refine hS _ _ _ _ ?_
  refine ⟨(by first | assumption | exact vp_in_nI (by simp only [alen]; omega) (by decide)), ?_⟩
  try rw [nI_clamp (by omega)]
  refine hS _ _ _ _ ?_
  rw [hG]
  refine sm_manyOf (by omega) hgb ?_
  rw [hmm]
  iterate 5 refine hS _ _ _ _ ?_
  refine sm_takesTo (by omega) (by omega) hn ?_
  rw [htt]
  iterate 5 refine hS _ _ _ _ ?_
  refine sm_of0 (by omega) (by omega) ?_
  iterate 2 refine hS _ _ _ _ ?_
  refine And.intro (fun h24 => ?_) (fun h24 => ?_)
  · iterate 4 refine hS _ _ _ _ ?_
    exact lp 0 (if_neg h24).symm
  · iterate 5 refine hS _ _ _ _ ?_
    exact lp 1 (if_pos h24).symm
end W8
