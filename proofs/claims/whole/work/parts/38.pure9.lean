-- 38.pure9: the reference's night, whole
theorem KP.nm {K : Nat} {f f' : FA} (h : KP f f') (n : NM K f) : NM K f' := ⟨h.cn n.1, h.2.2.2.2.txf n.2.1, by rw [h.2.1]; exact n.2.2⟩
section W9
variable {d b p K : Nat} {M : Mem} {Q : PQ}
theorem sm_night (hd : 6 ≤ d) (hN : NM K (M 31 0 0)) (hK : K ≤ 100000)
    (hQ : ∀ M', (∀ k, k ≠ 31 → k ≠ 35 → k ≠ 56 → k ≠ 57 → M' k = M k) → M' 31 0 0 = nightF (M 31 0 0) → Q none M') : Td PR d 156 [.inr (30, 0, 0)] M Q := by
  have hp9 := hN.1.2.2.2.1
  have hb10 := hN.1.2.1
  have hC := hN.1
  generalize hf : M 31 0 0 = f at *
  have k1 := lies_kp (f := f) (cP f) hp9
  have k2 := fun n hn => wakeF_kp (g := (liesF f (cP f)).2) (f := (liesF f (cP f)).1) (by rw [k1.cp]; exact hp9) n hn
  have hg := lies_g (f := f) (cP f) hp9
  obtain ⟨e, rfl⟩ : ∃ e, d = e + 1 := ⟨d - 1, by omega⟩
  refine td_X10_night ?_
  intro S hS
  have fin : ∀ M', (∀ k, k ≠ 31 → k ≠ 35 → k ≠ 56 → k ≠ 57 → M' k = M k) → M' 31 0 0 = carryF (wakeF (liesF f (cP f)).2 (liesF f (cP f)).1 (cB f)) → ∀ o1 o2, S 151 [some (.inr (30, 0, 0)), o1, o2] [] M' := by
    intro M' hF hM o1 o2
    iterate 5 refine hS _ _ _ _ ?_
    refine ⟨vp_l rfl, ?_⟩
    try rw [show Int32.toNatClampNeg 2 = 2 from rfl]
    iterate 3 refine hS _ _ _ _ ?_
    refine ⟨vp_l rfl, ?_⟩
    try rw [show Int32.toNatClampNeg 2 = 2 from rfl]
    refine hS _ _ _ _ ?_
    refine hQ _ (fun k a1 a2 a3 a4 => (mz_k a1).trans (hF k a1 a2 a3 a4)) ?_
    rw [upd_mu, hM]; rfl
  have cry : ∀ M', (∀ k, k ≠ 31 → k ≠ 35 → k ≠ 56 → k ≠ 57 → M' k = M k) → M' 31 0 0 = wakeF (liesF f (cP f)).2 (liesF f (cP f)).1 (cB f) → ∀ o1, S 80 [some (.inr (30, 0, 0)), o1, none] [] M' := by
    intro M' hF hM o1
    have kV := k1.tr (k2 (cB f) hb10)
    generalize wakeF (liesF f (cP f)).2 (liesF f (cP f)).1 (cB f) = V at *
    have cV := kV.cn hC
    generalize hW : carryF V = W at fin
    unfold carryF at hW
    dsimp only at hW
    iterate 2 refine hS _ _ _ _ ?_
    refine sm_draw (by omega) ?_
    rw [hM]
    generalize hM1 : mr M' 31 0 0 (drawF V) = M1
    have m1 : M1 31 0 0 = drawF V := by rw [← hM1, mr_same]
    have f1 : ∀ k, k ≠ 31 → M1 k = M' k := fun k hk => by rw [← hM1]; exact mr_k hk
    iterate 2 refine hS _ _ _ _ ?_
    refine ⟨by decide, ?_⟩
    iterate 4 refine hS _ _ _ _ ?_
    refine ⟨vp_l rfl, ?_⟩
    try rw [show Int32.toNatClampNeg 3 = 3 from rfl]
    refine hS _ _ _ _ ?_
    refine And.intro (fun h93 => ?_) (fun h93 => ?_)
    · rw [m1] at h93
      rw [if_neg (fun z => Int32.not_lt.mpr h93 z.1)] at hW
      iterate 4 refine hS _ _ _ _ ?_
      refine And.intro (fun _ => ?_) (fun h => absurd h (by decide))
      exact fin M1 (fun k a1 a2 a3 a4 => (f1 k a1).trans (hF k a1 a2 a3 a4)) (m1.trans hW) _ _
    · rw [m1] at h93
      iterate 5 refine hS _ _ _ _ ?_
      refine And.intro (fun h => absurd h (by decide)) (fun _ => ?_)
      iterate 4 refine hS _ _ _ _ ?_
      refine ⟨vp_l rfl, ?_⟩
      try rw [show Int32.toNatClampNeg 1 = 1 from rfl]
      refine hS _ _ _ _ ?_
      refine And.intro (fun h112 => ?_) (fun h112 => ?_)
      · rw [m1] at h112
        rw [if_neg (fun z => Int32.not_lt.mpr h112 z.2)] at hW
        exact fin M1 (fun k a1 a2 a3 a4 => (f1 k a1).trans (hF k a1 a2 a3 a4)) (m1.trans hW) _ _
      · rw [m1] at h112
        rw [if_pos ⟨nle_lt h93, nle_lt h112⟩] at hW
        obtain ⟨c, hc, ec⟩ := carry_ix (draw_kp.cn cV) (nle_lt h112) (drawZ (drawF V))
        rw [draw_kp.cb] at hc
        have hc10 : c < 10 := by have := cV.2.1; omega
        have ec' : irem (drawV (drawF V)) (drawF V 1) = nI c := ec
        rw [ec', nI_clamp (by omega)] at hW
        iterate 2 refine hS _ _ _ _ ?_
        refine sm_draw (by omega) ?_
        rw [m1]
        generalize hM2 : mr M1 31 0 0 (drawF (drawF V)) = M2
        have m2 : M2 31 0 0 = drawF (drawF V) := by rw [← hM2, mr_same]
        have f2 : ∀ k, k ≠ 31 → M2 k = M1 k := fun k hk => by rw [← hM2]; exact mr_k hk
        iterate 4 refine hS _ _ _ _ ?_
        refine ⟨vp_l rfl, ?_⟩
        try rw [show Int32.toNatClampNeg 1 = 1 from rfl]
        refine hS _ _ _ _ ?_
        rw [m2, show drawF (drawF V) 1 = drawF V 1 from upd_ne (by decide)]
        refine ⟨fun z => h112 (by rw [show drawF V 1 = 0 from z]; exact Int32.le_refl _), ?_⟩
        rw [ec']
        iterate 6 refine hS _ _ _ _ ?_
        refine sm_draw (by omega) ?_
        rw [m2]
        generalize hM3 : mr M2 31 0 0 (drawF (drawF (drawF V))) = M3
        have m3 : M3 31 0 0 = drawF (drawF (drawF V)) := by rw [← hM3, mr_same]
        have f3 : ∀ k, k ≠ 31 → M3 k = M2 k := fun k hk => by rw [← hM3]; exact mr_k hk
        iterate 2 refine hS _ _ _ _ ?_
        refine ⟨by decide, ?_⟩
        refine hS _ _ _ _ ?_
        refine sm_put1 (by omega) (by omega) ?_
        iterate 5 refine hS _ _ _ _ ?_
        refine ⟨vp_l rfl, ?_⟩
        try rw [show Int32.toNatClampNeg 8 = 8 from rfl]
        iterate 3 refine hS _ _ _ _ ?_
        refine ⟨vp_l rfl, ?_⟩
        try rw [show Int32.toNatClampNeg 8 = 8 from rfl]
        refine fin _ (fun k a1 a2 a3 a4 => ?_) ?_ _ _
        · simp only [mz_k a1]
          exact (f3 k a1).trans ((f2 k a1).trans ((f1 k a1).trans (hF k a1 a2 a3 a4)))
        · rw [← hW]; simp only [upd_mu, m3]
  have wks : ∀ M', (∀ k, k ≠ 31 → k ≠ 35 → k ≠ 56 → k ≠ 57 → M' k = M k) → M' 31 0 0 = (liesF f (cP f)).1 → (∀ b, b < cB f → M' 35 0 0 b = nI ((liesF f (cP f)).2 b)) → S 59 [some (.inr (30, 0, 0)), some (.inl 0), none] [] M' := by
    intro M' hF hM hG
    refine lp_up (T := fun i => ∀ M2, (∀ k, k ≠ 31 → M2 k = M' k) → M2 31 0 0 = wakeF (liesF f (cP f)).2 (liesF f (cP f)).1 i → S 59 [some (.inr (30, 0, 0)), some (.inl (nI i)), none] [] M2) (N := cB f) ?_ ?_ 0 (Nat.zero_le _) M' (fun _ _ => rfl) hM
    · intro M2 a1 a2
      have e1 : M2 31 0 0 1 = nI (cB f) := by rw [a2, (k2 (cB f) hb10).1, k1.1]; exact hC.1
      iterate 5 refine hS _ _ _ _ ?_
      refine ⟨vp_l rfl, ?_⟩
      try rw [show Int32.toNatClampNeg 1 = 1 from rfl]
      refine hS _ _ _ _ ?_
      refine And.intro (fun h66 => ?_) (fun h66 => ?_)
      · exact cry M2 (fun k b1 b2 b3 b4 => (a1 k b1).trans (hF k b1 b2 b3 b4)) a2 _
      · exact (lp_x e1 h66).elim
    · intro i hi ih M2 a1 a2
      have ki := k1.tr (k2 i (by omega))
      have e1 : M2 31 0 0 1 = nI (cB f) := by rw [a2, ki.1]; exact hC.1
      have hN2 : NM K (M2 31 0 0) := by rw [a2]; exact ki.nm hN
      iterate 5 refine hS _ _ _ _ ?_
      refine ⟨vp_l rfl, ?_⟩
      try rw [show Int32.toNatClampNeg 1 = 1 from rfl]
      refine hS _ _ _ _ ?_
      refine And.intro (fun h66 => ?_) (fun h66 => ?_)
      · exact (lp_s e1 hi (by omega) h66).elim
      · iterate 3 refine hS _ _ _ _ ?_
        refine sm_wakes (g := (liesF f (cP f)).2) (by omega) (by rw [a2, ki.cb]; exact hi) hN2 hK hg (by rw [a1 35 (by decide)]; exact hG i hi) (fun M3 b1 b2 => ?_)
        iterate 2 refine hS _ _ _ _ ?_
        have := ih M3 (fun k hk => (b1 k hk).trans (a1 k hk)) (by rw [b2, a2]; rfl)
        rw [nI_succ] at this
        exact this
  have lis : ∀ M', (∀ k, k ≠ 35 → M' k = M k) → (∀ b, b < cB f → M' 35 0 0 b = 0) → S 27 [some (.inr (30, 0, 0)), some (.inl 0), none] [] M' := by
    intro M' hF hG
    refine lp_up (T := fun i => ∀ M2, (∀ k, k ≠ 31 → k ≠ 35 → k ≠ 56 → k ≠ 57 → M2 k = M' k) → M2 31 0 0 = (liesF f i).1 → (∀ b, b < cB f → M2 35 0 0 b = nI ((liesF f i).2 b)) → S 27 [some (.inr (30, 0, 0)), some (.inl (nI i)), none] [] M2) (N := cP f) ?_ ?_ 0 (Nat.zero_le _) M' (fun _ _ _ _ _ => rfl) (by rw [hF 31 (by decide)]; exact hf) (fun b hb => hG b hb)
    · intro M2 a1 a2 a3
      have e4 : M2 31 0 0 4 = nI (cP f) := by rw [a2, k1.2.2.2.1]; exact hC.2.2.1
      iterate 5 refine hS _ _ _ _ ?_
      refine ⟨vp_l rfl, ?_⟩
      try rw [show Int32.toNatClampNeg 4 = 4 from rfl]
      refine hS _ _ _ _ ?_
      refine And.intro (fun h34 => ?_) (fun h34 => ?_)
      · iterate 2 refine hS _ _ _ _ ?_
        exact wks M2 (fun k b1 b2 b3 b4 => (a1 k b1 b2 b3 b4).trans (hF k b2)) a2 a3
      · exact (lp_x e4 h34).elim
    · intro i hi ih M2 a1 a2 a3
      have ki := lies_kp (f := f) i (by omega)
      have e4 : M2 31 0 0 4 = nI (cP f) := by rw [a2, ki.2.2.2.1]; exact hC.2.2.1
      have hN2 : NM K (M2 31 0 0) := by rw [a2]; exact ki.nm hN
      have es : liesF f (i + 1) = lieF (liesF f i) i := rfl
      iterate 5 refine hS _ _ _ _ ?_
      refine ⟨vp_l rfl, ?_⟩
      try rw [show Int32.toNatClampNeg 4 = 4 from rfl]
      refine hS _ _ _ _ ?_
      refine And.intro (fun h34 => ?_) (fun h34 => ?_)
      · exact (lp_s e4 hi (by omega) h34).elim
      · iterate 4 refine hS _ _ _ _ ?_
        refine sm_by3 (by omega) (by omega) ?_
        refine hS _ _ _ _ ?_
        refine And.intro (fun h43 => ?_) (fun h43 => ?_)
        · rw [a2] at h43
          have e0 : lieF (liesF f i) i = liesF f i := by unfold lieF; exact if_neg h43
          iterate 2 refine hS _ _ _ _ ?_
          have := ih M2 a1 (by rw [es, e0]; exact a2) (by rw [es, e0]; exact a3)
          rw [nI_succ] at this
          exact this
        · iterate 3 refine hS _ _ _ _ ?_
          refine sm_liesDown (g := (liesF f i).2) (by omega) (by rw [a2, ki.cp]; exact hi) hN2 h43 (lies_g i (by omega)) (by rw [a2, ki.cb]; exact a3) (fun M3 b1 b2 b3 => ?_)
          iterate 2 refine hS _ _ _ _ ?_
          have := ih M3 (fun k c1 c2 c3 c4 => (b1 k c1 c2 c3 c4).trans (a1 k c1 c2 c3 c4)) (by rw [b2, a2]; rfl) (by rw [a2, ki.cb] at b3; exact b3)
          rw [nI_succ] at this
          exact this
  iterate 2 refine hS _ _ _ _ ?_
  refine lp_up (T := fun i => ∀ M', (∀ k, k ≠ 35 → M' k = M k) → (∀ b, b < i → M' 35 0 0 b = 0) → S 2 [some (.inr (30, 0, 0)), some (.inl (nI i)), none] [] M') (N := cB f) ?_ ?_ 0 (Nat.zero_le _) M (fun _ _ => rfl) (fun b hb => absurd hb (Nat.not_lt_zero _))
  · intro M' a1 a2
    have e1 : M' 31 0 0 1 = nI (cB f) := by rw [a1 31 (by decide), hf]; exact hC.1
    iterate 5 refine hS _ _ _ _ ?_
    refine ⟨vp_l rfl, ?_⟩
    try rw [show Int32.toNatClampNeg 1 = 1 from rfl]
    refine hS _ _ _ _ ?_
    refine And.intro (fun h9 => ?_) (fun h9 => ?_)
    · iterate 2 refine hS _ _ _ _ ?_
      exact lis M' a1 a2
    · exact (lp_x e1 h9).elim
  · intro i hi ih M' a1 a2
    have e1 : M' 31 0 0 1 = nI (cB f) := by rw [a1 31 (by decide), hf]; exact hC.1
    iterate 5 refine hS _ _ _ _ ?_
    refine ⟨vp_l rfl, ?_⟩
    try rw [show Int32.toNatClampNeg 1 = 1 from rfl]
    refine hS _ _ _ _ ?_
    refine And.intro (fun h9 => ?_) (fun h9 => ?_)
    · exact (lp_s e1 hi (by omega) h9).elim
    · iterate 5 refine hS _ _ _ _ ?_
      refine ⟨(by first | assumption | exact vp_in_nI (by simp only [alen]; omega) (by decide)), ?_⟩
      try rw [nI_clamp (by omega)]
      iterate 2 refine hS _ _ _ _ ?_
      have := ih (mu M' 35 0 0 i 0) (fun k hk => (mz_k hk).trans (a1 k hk)) (fun b hb => by
        rw [upd_mu]
        by_cases z : b = i
        · rw [z, upd_at]
        · rw [upd_ne z]; exact a2 b (by omega))
      rw [nI_succ] at this
      exact this
theorem sm_goesOn {n : Nat} (hd : 7 ≤ d) (hN : NM K (M 31 0 0)) (hK : K + n ≤ 100000)
    (hQ : ∀ M', (∀ k, k ≠ 31 → k ≠ 35 → k ≠ 56 → k ≠ 57 → M' k = M k) → M' 31 0 0 = nightsF (M 31 0 0) n → Q none M') : Td PR d 157 [.inr (30, 0, 0), .inl (nI n)] M Q := by
  obtain ⟨e, rfl⟩ : ∃ e, d = e + 1 := ⟨d - 1, by omega⟩
  refine td_X10_goesOn ?_
  intro S hS
  iterate 2 refine hS _ _ _ _ ?_
  refine lp_up (T := fun i => ∀ M', (∀ k, k ≠ 31 → k ≠ 35 → k ≠ 56 → k ≠ 57 → M' k = M k) → M' 31 0 0 = nightsF (M 31 0 0) i → S 2 [some (.inr (30, 0, 0)), some (.inl (nI n)), some (.inl (nI i))] [] M') (N := n) ?_ ?_ 0 (Nat.zero_le _) M (fun _ _ _ _ _ => rfl) rfl
  · intro M' a1 a2
    iterate 3 refine hS _ _ _ _ ?_
    refine And.intro (fun h4 => ?_) (fun h4 => ?_)
    · refine hS _ _ _ _ ?_
      exact hQ M' a1 a2
    · exact (lp_x rfl h4).elim
  · intro i hi ih M' a1 a2
    have hN2 : NM (K + i) (M' 31 0 0) := by rw [a2]; exact nights_nm hN i
    iterate 3 refine hS _ _ _ _ ?_
    refine And.intro (fun h4 => ?_) (fun h4 => ?_)
    · exact (lp_s rfl hi (by omega) h4).elim
    · iterate 2 refine hS _ _ _ _ ?_
      refine sm_night (by omega) hN2 (by omega) (fun M2 b1 b2 => ?_)
      iterate 2 refine hS _ _ _ _ ?_
      have := ih M2 (fun k c1 c2 c3 c4 => (b1 k c1 c2 c3 c4).trans (a1 k c1 c2 c3 c4)) (by rw [b2, a2]; rfl)
      rw [nI_succ] at this
      exact this
end W9
