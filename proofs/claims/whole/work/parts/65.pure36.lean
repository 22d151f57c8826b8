-- 65.pure36: what holds at the start
theorem z31 : Mz 31 0 0 1 = 0 ∧ Mz 31 0 0 4 = 0 ∧ Mz 31 0 0 9 = 0 ∧ Mz 31 0 0 2 = 0 := by decide +kernel
theorem zLR : Mz 1 0 0 2 = Mz 31 0 0 1 ∧ Mz 1 0 0 10 = Mz 31 0 0 2 ∧ Mz 1 0 0 5 = Mz 31 0 0 3 ∧ Mz 1 0 0 4 = Mz 31 0 0 4 ∧ Mz 1 0 0 6 = Mz 31 0 0 5 ∧ Mz 1 0 0 7 = Mz 31 0 0 6 ∧ Mz 1 0 0 8 = Mz 31 0 0 7 ∧ Mz 1 0 0 9 = Mz 31 0 0 8 ∧ Mz 1 0 0 12 = Mz 31 0 0 9 ∧ Mz 1 0 0 11 = Mz 31 0 0 0 := by decide +kernel
theorem zImg : Mz 0 0 0 5 = 0 ∧ Mz 30 0 0 3 = 0 ∧ Mz 0 0 0 10 = 0 ∧ Mz 30 0 0 36 = 0 ∧ Mz 11 0 0 1 = 0 ∧ Mz 30 0 0 10 = 0 := by decide +kernel
theorem zRow : ∀ s, s < 4 → Mz 58 0 0 s = Mz 16 s 0 0 ∧ Mz 59 0 0 s = Mz 16 s 0 1 ∧ (Mz 16 s 0 0 = -1 ∨ Mz 16 s 0 0 = 0 ∨ Mz 16 s 0 0 = 1) ∧ Mz 16 s 0 1 = 0 ∧ ∀ k, k < 24 → Mz 60 0 0 (24 * s + k) = Mz 17 s 0 k := by decide +kernel
theorem zSlot : ∀ s, s < 5 → Mz 61 0 0 s = 0 ∧ Mz 19 s 0 0 = 0 := by decide +kernel
theorem zKey : (∀ i, i < 12 → Mz 48 0 0 i = keyL.getD i 0) ∧ (∀ i, i < 4 → Mz 49 0 0 i = keyA.getD i 0) := by decide +kernel
theorem inv_Mz : INV Mz := by
  obtain ⟨b1, b4, b9, b2⟩ := z31
  obtain ⟨i1, i2, i3, i4, i5, i6⟩ := zImg
  have hB : cB (Mz 31 0 0) = 0 := cB_lt (n := 0) b1 (by omega)
  have hP : cP (Mz 31 0 0) = 0 := cP_lt (n := 0) b4 (by omega)
  have hT : cT (Mz 31 0 0) = 0 := cT_lt (n := 0) b9 (by omega)
  have hC : CN (Mz 31 0 0) := ⟨by rw [hB]; exact b1, by omega, by rw [hP]; exact b4, by omega, by rw [hT]; exact b9, by omega⟩
  have hN : NM 10000 (Mz 31 0 0) := ⟨hC, fun t ht => absurd ht (by omega), ⟨0, by omega, b2⟩⟩
  refine ⟨⟨⟨hC, zLR, fun b hb => absurd hb (by omega), fun p hp => absurd hp (by omega)⟩, ⟨by omega, by rw [hT]; exact b9, fun t ht => absurd ht (by omega), fun t ht => absurd ht (by omega)⟩, hN, fun p hp => absurd hp (by omega), ⟨fun b hb => absurd hb (by omega), fun p hp => absurd hp (by omega)⟩⟩,
    ⟨i1.trans i2.symm, Or.inl i1⟩, fun s hs => ?_, fun s hs => ?_, ⟨i3.trans i4.symm, 0, by omega, i4, fun i hi => absurd hi (by omega)⟩, ⟨i5.trans i6.symm, 0, by omega, i6, fun i hi => absurd hi (by omega)⟩, zKey⟩
  · obtain ⟨a, b, c, d, e⟩ := zRow s hs
    exact ⟨a, b, c, ⟨0, by omega, d⟩, e⟩
  · obtain ⟨a, b⟩ := zSlot s hs
    exact ⟨a.trans b.symm, ⟨0, by omega, b⟩, fun z => absurd (b.symm.trans z) (by decide), fun z => absurd (b.symm.trans z) (by decide), fun z => absurd (b.symm.trans z) (by decide)⟩
theorem inv_M0 (xs : Nat → Int32) (L : Nat) : INV (M0 xs L) := by
  have q : ∀ k, k < 70 → M0 xs L k = Mz k := fun k h => M0_lo h
  obtain ⟨a, b, c, d, e, g, k⟩ := inv_Mz
  exact ⟨a.cg (by rw [q 1 (by omega)]) (by rw [q 3 (by omega)]) (by rw [q 5 (by omega)]) (q 9 (by omega)) (q 10 (by omega)) (by rw [q 31 (by omega)]),
    b.cg (by rw [q 0 (by omega)]) (by rw [q 30 (by omega)]) (by rw [q 1 (by omega)]) (by rw [q 3 (by omega)]) (by rw [q 5 (by omega)]) (q 9 (by omega)) (q 10 (by omega)) (by rw [q 32 (by omega)]) (by rw [q 31 (by omega)]),
    c.cg (fun s _ => by rw [q 16 (by omega)]) (fun s _ => by rw [q 17 (by omega)]) (q 58 (by omega)) (q 59 (by omega)) (q 60 (by omega)),
    d.cg (q 19 (by omega)) (by rw [q 3 (by omega)]) (fun s _ => by rw [q 16 (by omega)]) (fun s _ => by rw [q 17 (by omega)]) (q 61 (by omega)) (q 62 (by omega)) (q 63 (by omega)) (q 64 (by omega)),
    e.cg (by rw [q 0 (by omega)]) (by rw [q 30 (by omega)]) (q 20 (by omega)) (q 66 (by omega)),
    g.cg (by rw [q 11 (by omega)]) (by rw [q 30 (by omega)]) (q 12 (by omega)) (q 40 (by omega)),
    k.cg (q 48 (by omega)) (q 49 (by omega))⟩
theorem lawRun_of_text (HT : OpOK 94 195 []) : LawRun := lawRun_of HT (fun xs L _ => inv_M0 xs L)
