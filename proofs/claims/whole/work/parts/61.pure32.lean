-- 61.pure32: feed
def shI (i : Nat) : Int32 := 24 - nI (8 * i)
theorem shI_s : ∀ i, i < 4 → shI i + -8 = shI (i + 1) ∧ ¬ shI i < 0 := by decide +kernel
def byU (x : Int32) (i : Nat) : Int32 := (x.toUInt32 >>> ((shI i).toUInt32 &&& Int32.toUInt32 31)).toInt32 &&& 255
theorem and255 (x : Int32) : isBd 256 (x &&& 255) := by
  refine ⟨(x &&& 255).toBitVec.toNat, ?_, ?_⟩
  · have e : (x &&& 255).toBitVec = x.toBitVec &&& 255#32 := rfl
    rw [e, BitVec.toNat_and]
    exact Nat.lt_of_le_of_lt Nat.and_le_right (by decide)
  · apply Int32.toBitVec_inj.mp
    unfold nI
    rw [Int32.toBitVec_ofNat', BitVec.ofNat_toNat]
    simp
theorem shr_and (x : Int32) (s : Nat) (hs : s ≤ 24) : (x.toBitVec >>> s) &&& 255#32 = (x.toBitVec.sshiftRight s) &&& 255#32 := by
  apply BitVec.eq_of_getLsbD_eq
  intro i hi
  rw [BitVec.getLsbD_and, BitVec.getLsbD_and, BitVec.getLsbD_ushiftRight, BitVec.getLsbD_sshiftRight]
  by_cases h : i < 8
  · rw [if_pos (show s + i < 32 by omega)]
    simp [show ¬ 32 ≤ i by omega]
  · have : (255#32).getLsbD i = false := by
      have : ∀ i, i < 32 → 8 ≤ i → (255#32).getLsbD i = false := by decide
      exact this i hi (by omega)
    rw [this, Bool.and_false, Bool.and_false]
theorem byU_0 (x : Int32) : byU x 0 = x >>> (24 &&& 31) &&& 255 := by
  apply Int32.toBitVec_inj.mp
  exact shr_and x 24 (by omega)
theorem byU_1 (x : Int32) : byU x 1 = x >>> (16 &&& 31) &&& 255 := by
  apply Int32.toBitVec_inj.mp
  exact shr_and x 16 (by omega)
theorem byU_2 (x : Int32) : byU x 2 = x >>> (8 &&& 31) &&& 255 := by
  apply Int32.toBitVec_inj.mp
  exact shr_and x 8 (by omega)
theorem byU_3 (x : Int32) : byU x 3 = x >>> (0 &&& 31) &&& 255 := by
  apply Int32.toBitVec_inj.mp
  exact shr_and x 0 (by omega)
theorem byU_m {x : Int32} {i : Nat} (h : i < 4) : byU x i = x >>> ((24 - 8 * nI i) &&& 31) &&& 255 := by
  obtain rfl | rfl | rfl | rfl : i = 0 ∨ i = 1 ∨ i = 2 ∨ i = 3 := by omega
  · rw [byU_0]; rfl
  · rw [byU_1]; rfl
  · rw [byU_2]; rfl
  · rw [byU_3]; rfl
def fdW (a b c : Int32) (k : Nat) : Int32 := byU (if k < 4 then a else if k < 8 then b else c) (k % 4)
section W32
variable {d : Nat} {M : Mem} {Q : PQ} {a b c : Int32}
theorem sp_take {x : Int32} {n : Nat} (hd : 1 ≤ d) (hn : n + 4 ≤ 96) (e0 : M 11 0 0 1 = nI n) (hQ : ∀ M1, (∀ k, k ≠ 11 → k ≠ 12 → M1 k = M k) → (∀ s, s ≠ 1 → M1 11 0 0 s = M 11 0 0 s) → M1 11 0 0 1 = nI (n + 4) → (∀ q, M1 12 0 0 q = if n ≤ q ∧ q < n + 4 then byU x (q - n) else M 12 0 0 q) → Q none M1) : Td PR d 31 [.inr (11, 0, 0), .inl x] M Q := by
  obtain ⟨e, rfl⟩ : ∃ e, d = e + 1 := ⟨d - 1, by omega⟩
  refine td_X4_take ?_
  intro S hS
  iterate 2 refine hS _ _ _ _ ?_
  refine lp_up (T := fun i => ∀ M1, (∀ k, k ≠ 11 → k ≠ 12 → M1 k = M k) → (∀ s, s ≠ 1 → M1 11 0 0 s = M 11 0 0 s) → M1 11 0 0 1 = nI (n + i) → (∀ q, M1 12 0 0 q = if n ≤ q ∧ q < n + i then byU x (q - n) else M 12 0 0 q) → S 3 [some (.inr (11, 0, 0)), some (.inl x), some (.inl (shI i))] [] M1) (N := 4) ?_ ?_ 0 (Nat.zero_le _) M (fun _ _ _ => rfl) (fun _ _ => rfl) e0 (fun q => by rw [if_neg (by omega)])
  · intro M1 a1 a2 a3 a4
    iterate 2 refine hS _ _ _ _ ?_
    refine And.intro (fun h4 => ?_) (fun h4 => ?_)
    · refine hS _ _ _ _ ?_
      exact hQ M1 a1 a2 a3 a4
    · exact absurd (by decide) h4
  · intro i hi ih M1 a1 a2 a3 a4
    obtain ⟨s1, s2⟩ := shI_s i hi
    iterate 2 refine hS _ _ _ _ ?_
    refine And.intro (fun h4 => ?_) (fun h4 => ?_)
    · exact absurd h4 s2
    · iterate 4 refine hS _ _ _ _ ?_
      refine And.intro (fun h13 => ?_) (fun h13 => ?_)
      · exact absurd (show nI 96 ≤ M1 11 0 0 1 from h13) (by rw [a3]; exact nI_ge (by omega) (by decide))
      · iterate 10 refine hS _ _ _ _ ?_
        rw [show gfv M1 11 0 0 1 = .inl (nI (n + i)) from congrArg Sum.inl a3]
        refine ⟨(by first | assumption | exact vp_in_nI (by simp only [alen]; omega) (by decide)), ?_⟩
        try rw [nI_clamp (by omega)]
        iterate 8 refine hS _ _ _ _ ?_
        rw [s1]
        refine ih _ (fun k h1 h2 => (mz_k h1).trans ((mz_k h2).trans (a1 k h1 h2))) (fun s hs => ?_) ?_ (fun q => ?_)
        · rw [mz_sl hs]; exact a2 s hs
        · rw [mz_at]
          show M1 11 0 0 1 + 1 = _
          rw [a3, ← nI_succ]; rfl
        · show mu M1 12 0 0 (n + i) (byU x i) 12 0 0 q = _
          by_cases y : q = n + i
          · subst y
            rw [mz_at, if_pos (by omega), show n + i - n = i by omega]
          · rw [upd_mu, upd_ne y, a4]
            by_cases w : n ≤ q ∧ q < n + i
            · rw [if_pos w, if_pos (by omega)]
            · rw [if_neg w, if_neg (by omega)]
theorem c_feed {n : Nat} (hd : 500 ≤ d) (hn : n ≤ 96) (e0 : M 11 0 0 1 = nI n) (k1 : ¬ n + 12 ≤ 96 → Q (some (.inl (-1000000003))) M) (k2 : n + 12 ≤ 96 → ∀ M1, (∀ k, k ≠ 11 → k ≠ 12 → M1 k = M k) → M1 11 0 0 1 = nI (n + 12) → (∀ q, M1 12 0 0 q = if n ≤ q ∧ q < n + 12 then fdW a b c (q - n) else M 12 0 0 q) → Q (some (.inl (nI (n + 12)))) M1) : Td PR d 92 [.inr (0, 0, 0), .inl a, .inl b, .inl c] M Q := by
  have e12 : M 11 0 0 1 + 12 = nI (n + 12) := by rw [e0]; exact nI_add n 12
  obtain ⟨e, rfl⟩ : ∃ e, d = e + 1 := ⟨d - 1, by omega⟩
  refine td_X9_feed ?_
  intro S hS
  iterate 7 refine hS _ _ _ _ ?_
  refine And.intro (fun h12 => ?_) (fun h12 => ?_)
  · have h12' : n + 12 ≤ 96 := Nat.le_of_not_lt fun z => absurd (show M 11 0 0 1 + 12 ≤ nI 96 from h12) (by rw [e12]; exact nI_ge z (by omega))
    iterate 4 refine hS _ _ _ _ ?_
    refine sp_take (n := n) (by omega) (by omega) e0 (fun M1 a1 a2 a3 a4 => ?_)
    iterate 4 refine hS _ _ _ _ ?_
    refine sp_take (n := n + 4) (by omega) (by omega) a3 (fun M2 b1 b2 b3 b4 => ?_)
    iterate 4 refine hS _ _ _ _ ?_
    refine sp_take (n := n + 8) (by omega) (by omega) b3 (fun M3 c1 c2 c3 c4 => ?_)
    iterate 4 refine hS _ _ _ _ ?_
    refine qv (k2 h12' M3 (fun k x y => (c1 k x y).trans ((b1 k x y).trans (a1 k x y))) c3 (fun q => ?_)) c3.symm
    rw [c4, b4, a4]
    unfold fdW
    by_cases y1 : n + 4 + 4 ≤ q ∧ q < n + 4 + 4 + 4
    · rw [if_pos (show n + 8 ≤ q ∧ q < n + 8 + 4 by omega), if_pos (by omega), if_neg (by omega), if_neg (by omega), show (q - n) % 4 = q - (n + 8) by omega]
    · rw [if_neg (show ¬ (n + 8 ≤ q ∧ q < n + 8 + 4) by omega)]
      by_cases y2 : n + 4 ≤ q ∧ q < n + 4 + 4
      · rw [if_pos y2, if_pos (show n ≤ q ∧ q < n + 12 by omega), if_neg (show ¬ q - n < 4 by omega), if_pos (show q - n < 8 by omega), show (q - n) % 4 = q - (n + 4) by omega]
      · rw [if_neg y2]
        by_cases y3 : n ≤ q ∧ q < n + 4
        · rw [if_pos y3, if_pos (show n ≤ q ∧ q < n + 12 by omega), if_pos (show q - n < 4 by omega), show (q - n) % 4 = q - n by omega]
        · rw [if_neg y3, if_neg (show ¬ (n ≤ q ∧ q < n + 12) by omega)]
  · have h12' : ¬ n + 12 ≤ 96 := fun z => h12 (by show M 11 0 0 1 + 12 ≤ nI 96; rw [e12]; exact nI_le z (by decide))
    iterate 2 refine hS _ _ _ _ ?_
    exact k1 h12'
theorem m_feed {n : Nat} (hd : 500 ≤ d) (hn : n ≤ 96) (e0 : M 30 0 0 10 = nI n) (k1 : ¬ n + 12 ≤ 96 → Q (some (.inl (-1000000003))) M) (k2 : n + 12 ≤ 96 → ∀ M1, (∀ k, k ≠ 40 → k ≠ 30 → M1 k = M k) → (∀ s, s ≠ 10 → M1 30 0 0 s = M 30 0 0 s) → M1 30 0 0 10 = nI (n + 12) → (∀ q, M1 40 0 0 q = if n ≤ q ∧ q < n + 12 then fdW a b c (q - n) else M 40 0 0 q) → Q (some (.inl (nI (n + 12)))) M1) : Td PR d 182 [.inr (30, 0, 0), .inl a, .inl b, .inl c] M Q := by
  have e12 : M 30 0 0 10 + 12 = nI (n + 12) := by rw [e0]; exact nI_add n 12
  obtain ⟨e, rfl⟩ : ∃ e, d = e + 1 := ⟨d - 1, by omega⟩
  refine td_X10_feed ?_
  intro S hS
  have lp : n + 12 ≤ 96 → S 18 [some (.inr (30, 0, 0)), some (.inl a), some (.inl b), some (.inl c), some (.inl 0), none] [] M := by
    intro h96
    refine lp_up (T := fun i => ∀ o M1, (∀ k, k ≠ 40 → M1 k = M k) → (∀ q, M1 40 0 0 q = if n ≤ q ∧ q < n + i then fdW a b c (q - n) else M 40 0 0 q) → S 18 [some (.inr (30, 0, 0)), some (.inl a), some (.inl b), some (.inl c), some (.inl (nI i)), o] [] M1) (N := 12) ?_ ?_ 0 (Nat.zero_le _) none M (fun _ _ => rfl) (fun q => by rw [if_neg (by omega)])
    · intro o M1 a1 a2
      have e30 : M1 30 = M 30 := a1 30 (by decide)
      iterate 3 refine hS _ _ _ _ ?_
      refine And.intro (fun h22 => ?_) (fun h22 => ?_)
      · iterate 9 refine hS _ _ _ _ ?_
        have e3 : M1 30 0 0 10 + 12 = nI (n + 12) := by rw [e30]; exact e12
        refine qv (w := nI (n + 12)) (k2 h96 _ (fun k x y => (mz_k y).trans (a1 k x)) (fun s hs => ?_) ?_ ?_) ?_
        · rw [mz_sl hs, e30]
        · rw [mz_at]; exact e3
        · exact a2
        · rw [mz_at]; exact e3.symm
      · exact (lp_x (n := 12) rfl h22).elim
    · intro i hi ih o M1 a1 a2
      rw [nI_succ i] at ih
      have e10 : M1 30 0 0 10 = nI n := by rw [a1 30 (by decide)]; exact e0
      have er : irem (nI i) 4 = nI (i % 4) := irem_nI (b := 4) (by omega) (by decide)
      have go : ∀ w o', w = (if i < 4 then a else if i < 8 then b else c) → S 18 [some (.inr (30, 0, 0)), some (.inl a), some (.inl b), some (.inl c), some (.inl (nI i + 1)), o'] [] (mu M1 40 0 0 (n + i) (w >>> ((24 - 8 * nI (i % 4)) &&& 31) &&& 255)) := by
        intro w o' hw
        refine ih o' _ (fun k hk => (mz_k hk).trans (a1 k hk)) (fun q => ?_)
        by_cases y : q = n + i
        · subst y
          rw [mz_at, if_pos (by omega), show n + i - n = i by omega, hw]
          exact (byU_m (Nat.mod_lt _ (by decide))).symm
        · rw [upd_mu, upd_ne y, a2]
          by_cases w : n ≤ q ∧ q < n + i
          · rw [if_pos w, if_pos (by omega)]
          · rw [if_neg w, if_neg (by omega)]
      have ixx : M1 30 0 0 10 + nI i = nI (n + i) := by rw [e10, nI_add]
      iterate 3 refine hS _ _ _ _ ?_
      refine And.intro (fun h22 => ?_) (fun h22 => ?_)
      · exact (lp_s (n := 12) rfl hi (by omega) h22).elim
      · iterate 3 refine hS _ _ _ _ ?_
        refine And.intro (fun h28 => ?_) (fun h28 => ?_)
        · have g4 : ¬ i < 4 := fun z => nI_ge (b := 4) z (by decide) h28
          iterate 3 refine hS _ _ _ _ ?_
          refine And.intro (fun h39 => ?_) (fun h39 => ?_)
          · have g8 : ¬ i < 8 := fun z => nI_ge (b := 8) z (by decide) h39
            iterate 14 refine hS _ _ _ _ ?_
            refine ⟨by decide, ?_⟩
            rw [er]
            iterate 6 refine hS _ _ _ _ ?_
            rw [ixx]
            refine ⟨(by first | assumption | exact vp_in_nI (by simp only [alen]; omega) (by decide)), ?_⟩
            try rw [nI_clamp (by omega)]
            iterate 2 refine hS _ _ _ _ ?_
            exact go c _ (by rw [if_neg g4, if_neg g8])
          · have g8 : i < 8 := Nat.lt_of_not_le fun z => h39 (nI_le z (by omega))
            iterate 15 refine hS _ _ _ _ ?_
            refine ⟨by decide, ?_⟩
            rw [er]
            iterate 6 refine hS _ _ _ _ ?_
            rw [ixx]
            refine ⟨(by first | assumption | exact vp_in_nI (by simp only [alen]; omega) (by decide)), ?_⟩
            try rw [nI_clamp (by omega)]
            iterate 2 refine hS _ _ _ _ ?_
            exact go b _ (by rw [if_neg g4, if_pos g8])
        · have g4 : i < 4 := Nat.lt_of_not_le fun z => h28 (nI_le z (by omega))
          iterate 15 refine hS _ _ _ _ ?_
          refine ⟨by decide, ?_⟩
          rw [er]
          iterate 6 refine hS _ _ _ _ ?_
          rw [ixx]
          refine ⟨(by first | assumption | exact vp_in_nI (by simp only [alen]; omega) (by decide)), ?_⟩
          try rw [nI_clamp (by omega)]
          iterate 2 refine hS _ _ _ _ ?_
          exact go a _ (by rw [if_pos g4])
  iterate 6 refine hS _ _ _ _ ?_
  refine And.intro (fun h9 => ?_) (fun h9 => ?_)
  · have h9' : n + 12 ≤ 96 := Nat.le_of_not_lt fun z => absurd (show M 30 0 0 10 + 12 ≤ nI 96 from h9) (by rw [e12]; exact nI_ge z (by omega))
    iterate 2 refine hS _ _ _ _ ?_
    exact lp h9'
  · have h9' : ¬ n + 12 ≤ 96 := fun z => h9 (by show M 30 0 0 10 + 12 ≤ nI 96; rw [e12]; exact nI_le z (by decide))
    iterate 2 refine hS _ _ _ _ ?_
    exact k1 h9'
theorem op_feed : OpOK 92 182 [.inl a, .inl b, .inl c] := by
  intro M hI d hd
  obtain ⟨w1, n, hn, w2, w3⟩ := hI.2.2.2.2.2.1
  refine c_feed hd hn (w1.trans w2) (fun z => ⟨_, rfl, ⟨rfl, rfl⟩, ?_⟩) (fun z M1 a1 a2 a3 => ⟨_, rfl, ⟨a1 90 (by decide) (by decide), a1 91 (by decide) (by decide)⟩, ?_⟩)
  · exact m_feed hd hn w2 (fun _ => ⟨rfl, hI, ⟨rfl, rfl⟩⟩) (fun y => absurd y z)
  · have g30 : M1 30 = M 30 := a1 30 (by decide) (by decide)
    refine m_feed hd hn (by rw [g30]; exact w2) (fun y => absurd z y) (fun _ M2 b1 b2 b3 b4 => ⟨rfl, ?_, ⟨b1 90 (by decide) (by decide), b1 91 (by decide) (by decide)⟩⟩)
    have g40 : M1 40 = M 40 := a1 40 (by decide) (by decide)
    have h11 : M2 11 = M1 11 := b1 11 (by decide) (by decide)
    have h12 : M2 12 = M1 12 := b1 12 (by decide) (by decide)
    refine hI.tp (fun k x1 x2 x3 x4 => (b1 k x4 x3).trans (a1 k x1 x2)) (by rw [b2 3 (by decide), g30]) (by rw [b2 36 (by decide), g30]) ⟨by rw [h11, a2, b3], n + 12, z, b3, fun i hi => ?_⟩
    rw [h12, a3, b4, g40]
    by_cases y : n ≤ i ∧ i < n + 12
    · rw [if_pos y, if_pos y]
      exact ⟨rfl, and255 _⟩
    · rw [if_neg y, if_neg y]
      exact w3 i (by omega)
end W32
