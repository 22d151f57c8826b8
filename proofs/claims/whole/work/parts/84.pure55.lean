-- 84.pure55: the call text in the reference
def FRt (M M1 : Mem) : Prop := (∀ k, k ≠ 30 → k ≠ 31 → k ≠ 50 → k ≠ 53 → k ≠ 55 → M1 k = M k) ∧ M1 30 0 0 10 = 0 ∧ ∀ j, j < 10 ∨ 23 < j → M1 30 0 0 j = M 30 0 0 j
theorem NRw_0 {f : FA} {t ky : Nat} {ps : List Int32} : upd (upd f (86 + 2 * t) (nI (1000 * ky + ps.length))) (87 + 2 * t) (nI (lvN ps)) = NRw f t ky ps 0 := by
  funext i
  unfold NRw
  by_cases a : i = 86 + 2 * t
  · rw [if_pos a, upd_ne (by omega), a, upd_at]
  · rw [if_neg a]
    by_cases b : i = 87 + 2 * t
    · rw [if_pos b, b, upd_at]
    · rw [if_neg b, if_neg (by omega), upd_ne b, upd_ne a]
theorem NRw_s {f : FA} {t ky j : Nat} {ps : List Int32} (ht : t < 14) : upd (NRw f t ky ps j) (114 + 96 * t + j) (ps.getD j 0) = NRw f t ky ps (j + 1) := by
  funext i
  by_cases a : i = 114 + 96 * t + j
  · rw [a, upd_at]
    unfold NRw
    rw [if_neg (by omega), if_neg (by omega), if_pos (by omega)]
    congr 1
    omega
  · rw [upd_ne a]
    unfold NRw
    by_cases b : 114 + 96 * t ≤ i ∧ i < 114 + 96 * t + j
    · rw [if_pos b, if_pos (show 114 + 96 * t ≤ i ∧ i < 114 + 96 * t + (j + 1) by omega)]
    · rw [if_neg b, if_neg (show ¬ (114 + 96 * t ≤ i ∧ i < 114 + 96 * t + (j + 1)) by omega)]
theorem NRw_lo {f : FA} {t ky m i : Nat} {ps : List Int32} (h : i < 86) : NRw f t ky ps m i = f i := by
  unfold NRw
  rw [if_neg (by omega), if_neg (by omega), if_neg (by omega)]
section W55
variable {d n t : Nat} {M : Mem} {Q : PQ} {f : FA}
theorem m_textF {p : Nat} (hd : 400 ≤ d) (hn : n ≤ 96) (e10 : M 30 0 0 10 = nI n) (hf : ∀ i, i < n → M 40 0 0 i = f i) (hK : IKey M) (hp : TxF f n p) (k0 : ∀ M1, FRt M M1 → M1 31 = M 31 → Q (some (.inl (-100 - nI p))) M1) : Td PR d 195 [.inr (30, 0, 0)] M Q := by
  have fin : ∀ M1, (∀ k, k ≠ 30 → k ≠ 50 → k ≠ 53 → k ≠ 55 → M1 k = M k) → (∀ j, j < 10 ∨ 23 < j → M1 30 0 0 j = M 30 0 0 j) → FRt M (mu M1 30 0 0 10 0) ∧ mu M1 30 0 0 10 0 31 = M 31 := by
    intro M1 a b
    exact ⟨⟨fun k h1 h2 h3 h4 h5 => by rw [mz_k h1]; exact a k h1 h3 h4 h5, mz_at, fun j hj => by rw [mz_sl (by omega)]; exact b j hj⟩, by rw [mz_k (by decide)]; exact a 31 (by decide) (by decide) (by decide) (by decide)⟩
  rcases hp with ⟨hlt, rfl⟩ | ⟨ky, b, T1, ps, hk, ek, dv, hnb, rfl⟩
  · obtain ⟨e, rfl⟩ : ∃ e, d = e + 1 := ⟨d - 1, by omega⟩
    refine td_X10_text ?_
    intro S hS
    iterate 8 refine hS _ _ _ _ ?_
    refine sm_go (n := n) (f := f) (p := 0) (W := False) (by omega) hn (Nat.zero_le _) (by rw [mz_sl (by decide), mz_sl (by decide)]; exact e10) (fun i hi => by rw [mz_k (by decide), mz_k (by decide)]; exact hf i hi) (by rw [mz_sl (by decide), mz_at]; rfl) ⟨⟨fun z => absurd (mz_at.symm.trans z) (by decide), False.elim⟩, Or.inl mz_at⟩ (fun M1 g1 g2 g3 => ?_)
    have b1 : ∀ k, k ≠ 30 → M1 k = M k := fun k a => by rw [g1.1 k a, mz_k a, mz_k a]
    have b2 : ∀ j, j < 10 ∨ 23 < j → M1 30 0 0 j = M 30 0 0 j := fun j a => by rw [g1.2 j (by omega), mz_sl (by omega), mz_sl (by omega)]
    iterate 2 refine hS _ _ _ _ ?_
    refine sm_takesKey (n := n) (f := f) (T := T0F f n) (by omega) hn T0_to g2 g3 (hK.cg (b1 48 (by decide)) (b1 49 (by decide))) (fun ky hk ek _ _ _ _ _ _ => absurd hlt (by rw [ek]; exact nI_pos (by omega))) (fun _ => ?_)
    refine hS _ _ _ _ ?_
    refine And.intro (fun _ => ?_) (fun h => absurd h (by decide))
    iterate 7 refine hS _ _ _ _ ?_
    refine And.intro (fun h => absurd h (by decide)) (fun _ => ?_)
    iterate 5 refine hS _ _ _ _ ?_
    obtain ⟨f1, f2⟩ := fin M1 (fun k a _ _ _ => b1 k a) b2
    exact qv (k0 _ f1 f2) (by rw [mz_sl (by decide), g2.2.2.1]; rfl)
  · obtain ⟨e, rfl⟩ : ∃ e, d = e + 1 := ⟨d - 1, by omega⟩
    refine td_X10_text ?_
    intro S hS
    iterate 8 refine hS _ _ _ _ ?_
    refine sm_go (n := n) (f := f) (p := 0) (W := False) (by omega) hn (Nat.zero_le _) (by rw [mz_sl (by decide), mz_sl (by decide)]; exact e10) (fun i hi => by rw [mz_k (by decide), mz_k (by decide)]; exact hf i hi) (by rw [mz_sl (by decide), mz_at]; rfl) ⟨⟨fun z => absurd (mz_at.symm.trans z) (by decide), False.elim⟩, Or.inl mz_at⟩ (fun M1 g1 g2 g3 => ?_)
    have b1 : ∀ k, k ≠ 30 → M1 k = M k := fun k a => by rw [g1.1 k a, mz_k a, mz_k a]
    have b2 : ∀ j, j < 10 ∨ 23 < j → M1 30 0 0 j = M 30 0 0 j := fun j a => by rw [g1.2 j (by omega), mz_sl (by omega), mz_sl (by omega)]
    iterate 2 refine hS _ _ _ _ ?_
    refine sm_takesKey (n := n) (f := f) (T := T0F f n) (by omega) hn T0_to g2 g3 (hK.cg (b1 48 (by decide)) (b1 49 (by decide))) (fun ky' hk' ek' M2 a1 a2 a3 a4 a5 => ?_) (fun z => absurd z (by rw [ek]; exact nI_pos (by omega)))
    obtain rfl : ky' = ky := (nI_eq (by omega) (by omega)).mp (ek'.symm.trans ek)
    refine hS _ _ _ _ ?_
    refine And.intro (fun h => absurd h (by decide)) (fun _ => ?_)
    iterate 2 refine hS _ _ _ _ ?_
    refine sm_takesE (n := n) (f := f) (ky := ky') (T := nt f n (T0F f n)) (b := b) (T1 := T1) (ps := ps) (by omega) hn hk a3 T0_to.nt.1 a4 a5 dv (fun z1 z2 => absurd ⟨z1, z2⟩ hnb) (fun _ M3 c1 c2 => ?_)
    refine hS _ _ _ _ ?_
    refine And.intro (fun _ => ?_) (fun h => absurd h (by decide))
    iterate 7 refine hS _ _ _ _ ?_
    refine And.intro (fun h => absurd h (by decide)) (fun _ => ?_)
    iterate 5 refine hS _ _ _ _ ?_
    obtain ⟨f1, f2⟩ := fin M3 (fun k a b c e => (c1.1 k a b c e).trans ((a1 k a).trans (b1 k a))) (fun j a => (c1.2 j (by omega)).trans ((a2 j (by omega)).trans (b2 j a)))
    exact qv (k0 _ f1 f2) (by rw [mz_sl (by decide), c2.2.2.1])
theorem m_textG {ky : Nat} {ps : List Int32} (hd : 400 ≤ d) (hn : n ≤ 96) (ht : t ≤ 14) (e10 : M 30 0 0 10 = nI n) (hf : ∀ i, i < n → M 40 0 0 i = f i) (hK : IKey M) (e9 : M 31 0 0 9 = nI t) (hp : TxG f n ky ps) (kF : ¬ t < 14 → ∀ M1, FRt M M1 → M1 31 = M 31 → Q (some (.inl (-1000000003))) M1)
    (k1 : t < 14 → ∀ M1, FRt M M1 → M1 31 0 0 = upd (NRw (M 31 0 0) t ky ps ps.length) 9 (nI (t + 1)) → Q (some (.inl (nI t))) M1) : Td PR d 195 [.inr (30, 0, 0)] M Q := by
  have fin : ∀ M1, (∀ k, k ≠ 30 → k ≠ 31 → k ≠ 50 → k ≠ 53 → k ≠ 55 → M1 k = M k) → (∀ j, j < 10 ∨ 23 < j → M1 30 0 0 j = M 30 0 0 j) → FRt M (mu M1 30 0 0 10 0) := by
    intro M1 a b
    exact ⟨fun k h1 h2 h3 h4 h5 => by rw [mz_k h1]; exact a k h1 h2 h3 h4 h5, mz_at, fun j hj => by rw [mz_sl (by omega)]; exact b j hj⟩
  obtain ⟨hl96, -⟩ := hp.ok hn
  obtain ⟨hk, ek, T1, dv, hz⟩ := hp
  obtain ⟨e, rfl⟩ : ∃ e, d = e + 1 := ⟨d - 1, by omega⟩
  refine td_X10_text ?_
  intro S hS
  have lp : t < 14 → ∀ M5, FRt M M5 → M5 31 0 0 = NRw (M 31 0 0) t ky ps 0 → M5 30 0 0 20 = nI ps.length → (∀ k, k < ps.length → M5 50 0 0 k = ps.getD k 0) → S 117 [some (.inr (30, 0, 0)), some (.inl 1), some (.inl (nI t)), some (.inl (nI 0))] [] M5 := by
    intro ht' M5 f5 m5 c5 p5
    refine lp_up (T := fun j => ∀ M6, (∀ k, k ≠ 31 → M6 k = M5 k) → M6 31 0 0 = NRw (M 31 0 0) t ky ps j → S 117 [some (.inr (30, 0, 0)), some (.inl 1), some (.inl (nI t)), some (.inl (nI j))] [] M6) (N := ps.length) ?_ ?_ 0 (Nat.zero_le _) M5 (fun _ _ => rfl) m5
    · intro M6 a1 a2
      have c6 : M6 30 0 0 20 = nI ps.length := by rw [a1 30 (by decide)]; exact c5
      have e96 : M6 31 0 0 9 = nI t := by rw [a2, NRw_lo (by decide)]; exact e9
      iterate 4 refine hS _ _ _ _ ?_
      refine And.intro (fun h122 => ?_) (fun h122 => ?_)
      · iterate 5 refine hS _ _ _ _ ?_
        refine ⟨vp_l rfl, ?_⟩
        try rw [show Int32.toNatClampNeg 9 = 9 from rfl]
        iterate 3 refine hS _ _ _ _ ?_
        refine ⟨vp_l rfl, ?_⟩
        try rw [show Int32.toNatClampNeg 9 = 9 from rfl]
        iterate 2 refine hS _ _ _ _ ?_
        refine k1 ht' _ ⟨fun k h1 h2 h3 h4 h5 => ?_, ?_, fun j hj => ?_⟩ ?_
        · rw [mz_k h2, a1 k h2]; exact f5.1 k h1 h2 h3 h4 h5
        · rw [mz_k (by decide), a1 30 (by decide)]; exact f5.2.1
        · rw [mz_k (by decide), a1 30 (by decide)]; exact f5.2.2 j hj
        · rw [upd_mu, a2, NRw_lo (by decide), e9, nI_succ]
      · exact (by rw [c6] at h122; exact (lp_x rfl h122).elim)
    · intro j hj ih M6 a1 a2
      have c6 : M6 30 0 0 20 = nI ps.length := by rw [a1 30 (by decide)]; exact c5
      have p6 : M6 50 0 0 j = ps.getD j 0 := by rw [a1 50 (by decide)]; exact p5 j hj
      have ex : 114 + 96 * nI t + nI j = nI (114 + 96 * t + j) := by
        show nI 114 + nI 96 * nI t + nI j = _
        rw [nI_mul, nI_add, nI_add]
      rw [nI_succ] at ih
      iterate 4 refine hS _ _ _ _ ?_
      refine And.intro (fun h122 => ?_) (fun h122 => ?_)
      · exact (by rw [c6] at h122; exact (lp_s rfl hj (by omega) h122).elim)
      · iterate 13 refine hS _ _ _ _ ?_
        refine ⟨(by first | assumption | exact vp_in_nI (by simp only [alen]; omega) (by decide)), ?_⟩
        try rw [nI_clamp (by omega)]
        refine hS _ _ _ _ ?_
        rw [ex]
        refine ⟨(by first | assumption | exact vp_in_nI (by simp only [alen]; omega) (by decide)), ?_⟩
        try rw [nI_clamp (by omega)]
        iterate 2 refine hS _ _ _ _ ?_
        refine ih _ (fun k hk => by rw [mz_k hk]; exact a1 k hk) ?_
        rw [upd_mu, a2, p6, NRw_s ht']
  iterate 8 refine hS _ _ _ _ ?_
  refine sm_go (n := n) (f := f) (p := 0) (W := False) (by omega) hn (Nat.zero_le _) (by rw [mz_sl (by decide), mz_sl (by decide)]; exact e10) (fun i hi => by rw [mz_k (by decide), mz_k (by decide)]; exact hf i hi) (by rw [mz_sl (by decide), mz_at]; rfl) ⟨⟨fun z => absurd (mz_at.symm.trans z) (by decide), False.elim⟩, Or.inl mz_at⟩ (fun M1 g1 g2 g3 => ?_)
  have b1 : ∀ k, k ≠ 30 → M1 k = M k := fun k a => by rw [g1.1 k a, mz_k a, mz_k a]
  have b2 : ∀ j, j < 10 ∨ 23 < j → M1 30 0 0 j = M 30 0 0 j := fun j a => by rw [g1.2 j (by omega), mz_sl (by omega), mz_sl (by omega)]
  iterate 2 refine hS _ _ _ _ ?_
  refine sm_takesKey (n := n) (f := f) (T := T0F f n) (by omega) hn T0_to g2 g3 (hK.cg (b1 48 (by decide)) (b1 49 (by decide))) (fun ky' hk' ek' M2 a1 a2 a3 a4 a5 => ?_) (fun z => absurd z (by rw [ek]; exact nI_pos (by omega)))
  obtain rfl : ky' = ky := (nI_eq (by omega) (by omega)).mp (ek'.symm.trans ek)
  refine hS _ _ _ _ ?_
  refine And.intro (fun h => absurd h (by decide)) (fun _ => ?_)
  iterate 2 refine hS _ _ _ _ ?_
  refine sm_takesE (n := n) (f := f) (ky := ky') (T := nt f n (T0F f n)) (b := true) (T1 := T1) (ps := ps) (by omega) hn hk a3 T0_to.nt.1 a4 a5 dv (fun _ _ M3 c1 c2 c3 c4 c5 => ?_) (fun z => absurd ⟨rfl, hz⟩ z)
  have d1 : ∀ k, k ≠ 30 → k ≠ 50 → k ≠ 53 → k ≠ 55 → M3 k = M k := fun k a b c e => (c1.1 k a b c e).trans ((a1 k a).trans (b1 k a))
  have d2 : ∀ j, j < 10 ∨ 23 < j → M3 30 0 0 j = M 30 0 0 j := fun j a => (c1.2 j (by omega)).trans ((a2 j (by omega)).trans (b2 j a))
  have f1 := fin M3 (fun k a b c e g => d1 k a c e g) d2
  have d31 : mu M3 30 0 0 10 0 31 = M 31 := by rw [mz_k (by decide)]; exact d1 31 (by decide) (by decide) (by decide) (by decide)
  have e9' : mu M3 30 0 0 10 0 31 0 0 9 = nI t := by rw [d31]; exact e9
  have e16 : mu M3 30 0 0 10 0 30 0 0 16 = nI ky' := by rw [mz_sl (by decide), c1.2 16 (by decide)]; exact a3
  have e20 : mu M3 30 0 0 10 0 30 0 0 20 = nI ps.length := by rw [mz_sl (by decide)]; exact c3
  have e21 : mu M3 30 0 0 10 0 30 0 0 21 = nI (lvN ps) := by rw [mz_sl (by decide)]; exact c5
  have ekv : 1000 * mu M3 30 0 0 10 0 30 0 0 16 + mu M3 30 0 0 10 0 30 0 0 20 = nI (1000 * ky' + ps.length) := by
    rw [e16, e20]
    show nI 1000 * nI ky' + _ = _
    rw [nI_mul, nI_add]
  have e86 : 86 + 2 * nI t = nI (86 + 2 * t) := by
    show nI 86 + nI 2 * nI t = _
    rw [nI_mul, nI_add]
  have e87 : nI (86 + 2 * t) + 1 = nI (87 + 2 * t) := by rw [← nI_succ, show 86 + 2 * t + 1 = 87 + 2 * t by omega]
  refine hS _ _ _ _ ?_
  refine And.intro (fun h => absurd h (by decide)) (fun _ => ?_)
  iterate 8 refine hS _ _ _ _ ?_
  refine And.intro (fun _ => ?_) (fun h => absurd h (by decide))
  iterate 4 refine hS _ _ _ _ ?_
  refine ⟨vp_l rfl, ?_⟩
  try rw [show Int32.toNatClampNeg 9 = 9 from rfl]
  iterate 2 refine hS _ _ _ _ ?_
  refine And.intro (fun h60 => ?_) (fun h60 => ?_)
  · rw [e9'] at h60
    have ht14 : t < 14 := Nat.lt_of_le_of_ne ht (fun z => h60 (by rw [z]; rfl))
    iterate 4 refine hS _ _ _ _ ?_
    refine ⟨vp_l rfl, ?_⟩
    rw [show Int32.toNatClampNeg 9 = 9 from rfl, e9']
    iterate 16 refine hS _ _ _ _ ?_
    rw [e86, ekv]
    refine ⟨(by first | assumption | exact vp_in_nI (by simp only [alen]; omega) (by decide)), ?_⟩
    try rw [nI_clamp (by omega)]
    iterate 12 refine hS _ _ _ _ ?_
    rw [e86, e87, show ∀ v, gfv (mu (mu M3 30 0 0 10 0) 31 0 0 (86 + 2 * t) v) 30 0 0 21 = .inl (nI (lvN ps)) from fun v => congrArg Sum.inl (by rw [mz_k (by decide)]; exact e21)]
    refine ⟨(by first | assumption | exact vp_in_nI (by simp only [alen]; omega) (by decide)), ?_⟩
    try rw [nI_clamp (by omega)]
    iterate 2 refine hS _ _ _ _ ?_
    refine lp ht14 _ ⟨fun k h1 h2 h3 h4 h5 => ?_, ?_, fun j hj => ?_⟩ ?_ ?_ ?_
    · rw [mz_k h2, mz_k h2]; exact f1.1 k h1 h2 h3 h4 h5
    · rw [mz_k (by decide), mz_k (by decide)]; exact f1.2.1
    · rw [mz_k (by decide), mz_k (by decide)]; exact f1.2.2 j hj
    · rw [upd_mu, upd_mu, d31, NRw_0]
    · rw [mz_k (by decide), mz_k (by decide)]; exact e20
    · intro k hk; rw [mz_k (by decide), mz_k (by decide), mz_k (by decide)]; exact c4 k hk
  · rw [e9'] at h60
    have ht14 := (nI_eq (b := 14) (by omega) (by decide)).mp h60
    iterate 2 refine hS _ _ _ _ ?_
    exact kF (by omega) _ f1 d31
end W55
