-- 60.pure31: tell, trim, feed
theorem INV.wt {M M2 : Mem} (h : INV M) (q : ∀ k, k ≠ 0 → k ≠ 20 → k ≠ 30 → k ≠ 66 → M2 k = M k) (h0 : M2 0 0 0 5 = M 0 0 0 5) (h3 : M2 30 0 0 3 = M 30 0 0 3) (h10 : M2 30 0 0 10 = M 30 0 0 10) (hw : IWait M2) : INV M2 := by
  obtain ⟨a, b, c, d, e, g, k⟩ := h
  have e1 : M2 1 = M 1 := q 1 (by omega) (by omega) (by omega) (by omega)
  have e3 : M2 3 = M 3 := q 3 (by omega) (by omega) (by omega) (by omega)
  have e5 : M2 5 = M 5 := q 5 (by omega) (by omega) (by omega) (by omega)
  have e9 : M2 9 = M 9 := q 9 (by omega) (by omega) (by omega) (by omega)
  have eT : M2 10 = M 10 := q 10 (by omega) (by omega) (by omega) (by omega)
  have e31 : M2 31 = M 31 := q 31 (by omega) (by omega) (by omega) (by omega)
  have e32 : M2 32 = M 32 := q 32 (by omega) (by omega) (by omega) (by omega)
  have e11 : M2 11 = M 11 := q 11 (by omega) (by omega) (by omega) (by omega)
  have e16 : M2 16 = M 16 := q 16 (by omega) (by omega) (by omega) (by omega)
  have e17 : M2 17 = M 17 := q 17 (by omega) (by omega) (by omega) (by omega)
  exact ⟨a.cg (by rw [e1]) (by rw [e3]) (by rw [e5]) e9 eT (by rw [e31]),
    b.cg h0 h3 (by rw [e1]) (by rw [e3]) (by rw [e5]) e9 eT (by rw [e32]) (by rw [e31]),
    c.cg (fun s _ => by rw [e16]) (fun s _ => by rw [e17]) (q 58 (by omega) (by omega) (by omega) (by omega)) (q 59 (by omega) (by omega) (by omega) (by omega)) (q 60 (by omega) (by omega) (by omega) (by omega)),
    d.cg (q 19 (by omega) (by omega) (by omega) (by omega)) (by rw [e3]) (fun s _ => by rw [e16]) (fun s _ => by rw [e17]) (q 61 (by omega) (by omega) (by omega) (by omega)) (q 62 (by omega) (by omega) (by omega) (by omega)) (q 63 (by omega) (by omega) (by omega) (by omega)) (q 64 (by omega) (by omega) (by omega) (by omega)),
    hw,
    g.cg (by rw [e11]) h10 (q 12 (by omega) (by omega) (by omega) (by omega)) (q 40 (by omega) (by omega) (by omega) (by omega)),
    k.cg (q 48 (by omega) (by omega) (by omega) (by omega)) (q 49 (by omega) (by omega) (by omega) (by omega))⟩
theorem INV.tp {M M2 : Mem} (h : INV M) (q : ∀ k, k ≠ 11 → k ≠ 12 → k ≠ 30 → k ≠ 40 → M2 k = M k) (h3 : M2 30 0 0 3 = M 30 0 0 3) (h36 : M2 30 0 0 36 = M 30 0 0 36) (hw : ITape M2) : INV M2 := by
  obtain ⟨a, b, c, d, e, g, k⟩ := h
  have e1 : M2 1 = M 1 := q 1 (by omega) (by omega) (by omega) (by omega)
  have e3 : M2 3 = M 3 := q 3 (by omega) (by omega) (by omega) (by omega)
  have e5 : M2 5 = M 5 := q 5 (by omega) (by omega) (by omega) (by omega)
  have e9 : M2 9 = M 9 := q 9 (by omega) (by omega) (by omega) (by omega)
  have eT : M2 10 = M 10 := q 10 (by omega) (by omega) (by omega) (by omega)
  have e31 : M2 31 = M 31 := q 31 (by omega) (by omega) (by omega) (by omega)
  have e32 : M2 32 = M 32 := q 32 (by omega) (by omega) (by omega) (by omega)
  have e0 : M2 0 = M 0 := q 0 (by omega) (by omega) (by omega) (by omega)
  have e16 : M2 16 = M 16 := q 16 (by omega) (by omega) (by omega) (by omega)
  have e17 : M2 17 = M 17 := q 17 (by omega) (by omega) (by omega) (by omega)
  exact ⟨a.cg (by rw [e1]) (by rw [e3]) (by rw [e5]) e9 eT (by rw [e31]),
    b.cg (by rw [e0]) h3 (by rw [e1]) (by rw [e3]) (by rw [e5]) e9 eT (by rw [e32]) (by rw [e31]),
    c.cg (fun s _ => by rw [e16]) (fun s _ => by rw [e17]) (q 58 (by omega) (by omega) (by omega) (by omega)) (q 59 (by omega) (by omega) (by omega) (by omega)) (q 60 (by omega) (by omega) (by omega) (by omega)),
    d.cg (q 19 (by omega) (by omega) (by omega) (by omega)) (by rw [e3]) (fun s _ => by rw [e16]) (fun s _ => by rw [e17]) (q 61 (by omega) (by omega) (by omega) (by omega)) (q 62 (by omega) (by omega) (by omega) (by omega)) (q 63 (by omega) (by omega) (by omega) (by omega)) (q 64 (by omega) (by omega) (by omega) (by omega)),
    e.cg (by rw [e0]) h36 (q 20 (by omega) (by omega) (by omega) (by omega)) (q 66 (by omega) (by omega) (by omega) (by omega)),
    hw,
    k.cg (q 48 (by omega) (by omega) (by omega) (by omega)) (q 49 (by omega) (by omega) (by omega) (by omega))⟩
section W31
variable {d : Nat} {M : Mem} {Q : PQ}
theorem c_tell {v : Int32} {n : Nat} (hd : 500 ≤ d) (hn : n ≤ 60) (e0 : M 0 0 0 10 = nI n) (h1 : n = 60 → Q (some (.inl (-1000000003))) M) (h2 : n < 60 → Q (some (.inl (nI (n + 1)))) (mu (mu M 20 0 0 n v) 0 0 0 10 (nI (n + 1)))) : Td PR d 106 [.inr (0, 0, 0), .inl v] M Q := by
  have e1 : ∀ x, mu M 20 0 0 n x 0 0 0 10 = nI n := fun x => e0
  have e2 : ∀ x y, mu (mu M 20 0 0 n x) 0 0 0 10 y 0 0 0 10 = y := fun x y => mz_at
  obtain ⟨e, rfl⟩ : ∃ e, d = e + 1 := ⟨d - 1, by omega⟩
  refine td_X9_tell ?_
  intro S hS
  iterate 4 refine hS _ _ _ _ ?_
  refine And.intro (fun h6 => ?_) (fun h6 => ?_)
  · have h6' : nI n < nI 60 := by rw [← e0]; exact h6
    have hz : n < 60 := Nat.lt_of_not_le fun z => absurd h6' (nI_nlt (by omega) (by omega))
    have h2' := h2 hz
    iterate 6 refine hS _ _ _ _ ?_
    rw [show gfv M 0 0 0 10 = .inl (nI n) from congrArg Sum.inl e0]
    refine ⟨(by first | assumption | exact vp_in_nI (by simp only [alen]; omega) (by decide)), ?_⟩
    try rw [nI_clamp (by omega)]
    iterate 9 refine hS _ _ _ _ ?_
    rw [nI_succ] at h2'
    have e3 : M 0 0 0 10 + 1 = nI n + 1 := by rw [e0]
    refine qv (w := nI n + 1) ?_ ?_
    · show Q _ (mu (mu M 20 0 0 n v) 0 0 0 10 (M 0 0 0 10 + 1))
      rw [e3]; exact h2'
    · show _ = mu (mu M 20 0 0 n v) 0 0 0 10 (M 0 0 0 10 + 1) 0 0 0 10
      rw [e2, e3]
  · have h6' : ¬ nI n < nI 60 := by rw [← e0]; exact h6
    have hz : n = 60 := Nat.le_antisymm hn (Nat.le_of_not_lt fun z => h6' (nI_lt z (by decide)))
    iterate 2 refine hS _ _ _ _ ?_
    exact h1 hz
theorem m_tell {v : Int32} {n : Nat} (hd : 500 ≤ d) (hn : n ≤ 60) (e0 : M 30 0 0 36 = nI n) (h1 : n = 60 → Q (some (.inl (-1000000003))) M) (h2 : n < 60 → Q (some (.inl (nI (n + 1)))) (mu (mu M 66 0 0 n v) 30 0 0 36 (nI (n + 1)))) : Td PR d 212 [.inr (30, 0, 0), .inl v] M Q := by
  have e2 : ∀ x y, mu (mu M 66 0 0 n x) 30 0 0 36 y 30 0 0 36 = y := fun x y => mz_at
  obtain ⟨e, rfl⟩ : ∃ e, d = e + 1 := ⟨d - 1, by omega⟩
  refine td_X10_tell ?_
  intro S hS
  iterate 4 refine hS _ _ _ _ ?_
  refine And.intro (fun h6 => ?_) (fun h6 => ?_)
  · have hz : n < 60 := by
      have : n ≠ 60 := fun z => h6 (by rw [show M 30 0 0 36 = nI n from e0, z]; rfl)
      omega
    have h2' := h2 hz
    iterate 6 refine hS _ _ _ _ ?_
    rw [show gfv M 30 0 0 36 = .inl (nI n) from congrArg Sum.inl e0]
    refine ⟨(by first | assumption | exact vp_in_nI (by simp only [alen]; omega) (by decide)), ?_⟩
    try rw [nI_clamp (by omega)]
    iterate 9 refine hS _ _ _ _ ?_
    rw [nI_succ] at h2'
    have e3 : M 30 0 0 36 + 1 = nI n + 1 := by rw [e0]
    refine qv (w := nI n + 1) ?_ ?_
    · show Q _ (mu (mu M 66 0 0 n v) 30 0 0 36 (M 30 0 0 36 + 1))
      rw [e3]; exact h2'
    · show _ = mu (mu M 66 0 0 n v) 30 0 0 36 (M 30 0 0 36 + 1) 30 0 0 36
      rw [e2, e3]
  · have hz : n = 60 := by
      have h6' : nI n = nI 60 := by rw [← e0]; exact h6
      exact (nI_eq (by omega) (by decide)).mp h6'
    iterate 2 refine hS _ _ _ _ ?_
    exact h1 hz
theorem op_tell {v : Int32} : OpOK 106 212 [.inl v] := by
  intro M hI d hd
  obtain ⟨w1, n, hn, w2, w3⟩ := hI.2.2.2.2.1
  refine c_tell hd hn (w1.trans w2) (fun z => ⟨_, rfl, ⟨rfl, rfl⟩, ?_⟩) (fun z => ⟨_, rfl, ⟨rfl, rfl⟩, ?_⟩)
  · exact m_tell hd hn w2 (fun _ => ⟨rfl, hI, ⟨rfl, rfl⟩⟩) (fun y => absurd z (by omega))
  · refine m_tell hd hn w2 (fun y => absurd z (by omega)) (fun _ => ⟨rfl, ?_, ⟨rfl, rfl⟩⟩)
    refine hI.wt (fun k a b c d => ?_) ?_ ?_ ?_ ⟨?_, n + 1, by omega, mz_at, fun i hi => ?_⟩
    · rw [mz_k c, mz_k d, mz_k a, mz_k b]
    · show mu (mu M 20 0 0 n v) 0 0 0 10 (nI (n + 1)) 0 0 0 5 = _
      rw [mz_sl (by decide)]; rfl
    · rw [mz_sl (by decide)]; rfl
    · rw [mz_sl (by decide)]; rfl
    · rw [mz_at]
      show mu (mu M 20 0 0 n v) 0 0 0 10 (nI (n + 1)) 0 0 0 10 = _
      rw [mz_at]
    · show mu M 20 0 0 n v 20 0 0 i = mu (mu (mu M 20 0 0 n v) 0 0 0 10 (nI (n + 1))) 66 0 0 n v 66 0 0 i
      by_cases y : i = n
      · subst y; rw [mz_at, mz_at]
      · rw [upd_mu, upd_ne y, upd_mu, upd_ne y]
        exact w3 i (by omega)
theorem c_trim {v : Int32} {n : Nat} (hd : 500 ≤ d) (hn : n ≤ 96) (e0 : M 11 0 0 1 = nI n) (k1 : ¬ isBd (n + 1) v → Q (some (.inl (-1000000001))) M) (k2 : isBd (n + 1) v → Q (some (.inl v)) (mu M 11 0 0 1 v)) : Td PR d 93 [.inr (0, 0, 0), .inl v] M Q := by
  obtain ⟨e, rfl⟩ : ∃ e, d = e + 1 := ⟨d - 1, by omega⟩
  refine td_X9_trim ?_
  intro S hS
  iterate 2 refine hS _ _ _ _ ?_
  refine And.intro (fun h1 => ?_) (fun h1 => ?_)
  · iterate 2 refine hS _ _ _ _ ?_
    exact k1 (isBd_lo h1 (by omega))
  · iterate 5 refine hS _ _ _ _ ?_
    refine And.intro (fun h12 => ?_) (fun h12 => ?_)
    · have h12' : ¬ nI n < v := by rw [← e0]; exact Int32.not_lt.mpr h12
      iterate 6 refine hS _ _ _ _ ?_
      exact k2 ((in_bd1 (by omega)).mp ⟨h1, h12'⟩)
    · have h12' : nI n < v := by rw [← e0]; exact nle_lt h12
      iterate 2 refine hS _ _ _ _ ?_
      exact k1 (fun z => ((in_bd1 (by omega)).mpr z).2 h12')
theorem m_trim {v : Int32} {n : Nat} (hd : 500 ≤ d) (hn : n ≤ 96) (e0 : M 30 0 0 10 = nI n) (k1 : ¬ isBd (n + 1) v → Q (some (.inl (-1000000001))) M) (k2 : isBd (n + 1) v → Q (some (.inl v)) (mu M 30 0 0 10 v)) : Td PR d 183 [.inr (30, 0, 0), .inl v] M Q := by
  obtain ⟨e, rfl⟩ : ∃ e, d = e + 1 := ⟨d - 1, by omega⟩
  refine td_X10_trim ?_
  intro S hS
  iterate 5 refine hS _ _ _ _ ?_
  rw [show gfv M 30 0 0 10 = .inl (nI n) from congrArg Sum.inl e0]
  refine sm_in (by omega) ?_
  refine hS _ _ _ _ ?_
  refine And.intro (fun h9 => ?_) (fun h9 => ?_)
  · replace h9 := bI_t h9
    iterate 5 refine hS _ _ _ _ ?_
    exact k2 ((in_bd1 (by omega)).mp h9)
  · replace h9 := bI_f h9
    iterate 2 refine hS _ _ _ _ ?_
    exact k1 (fun z => h9 ((in_bd1 (by omega)).mpr z))
theorem op_trim {v : Int32} : OpOK 93 183 [.inl v] := by
  intro M hI d hd
  obtain ⟨w1, n, hn, w2, w3⟩ := hI.2.2.2.2.2.1
  refine c_trim hd hn (w1.trans w2) (fun z => ⟨_, rfl, ⟨rfl, rfl⟩, ?_⟩) (fun z => ⟨_, rfl, ⟨rfl, rfl⟩, ?_⟩)
  · exact m_trim hd hn w2 (fun _ => ⟨rfl, hI, ⟨rfl, rfl⟩⟩) (fun y => absurd y z)
  · refine m_trim hd hn w2 (fun y => absurd z y) (fun _ => ⟨rfl, ?_, ⟨rfl, rfl⟩⟩)
    obtain ⟨j, hj, rfl⟩ := z
    refine hI.tp (fun k a b c d => ?_) ?_ ?_ ⟨?_, j, by omega, mz_at, fun i hi => ?_⟩
    · rw [mz_k c, mz_k a]
    · rw [mz_sl (by decide)]; rfl
    · rw [mz_sl (by decide)]; rfl
    · rw [mz_at]
      show mu M 11 0 0 1 (nI j) 11 0 0 1 = _
      rw [mz_at]
    · exact w3 i (by omega)
end W31
