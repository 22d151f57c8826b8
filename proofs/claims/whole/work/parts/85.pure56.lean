-- 85.pure56: the call text, on both sides
theorem TX.ix {M M' : Mem} {f : FA} (h : TX M f) (e : ∀ i, i < cT f → M' 9 i = M 9 i ∧ M' 10 i = M 10 i) : TX M' f := by
  obtain ⟨a, b, c, d⟩ := h
  refine ⟨a, b, fun t ht => ?_, d⟩
  rw [(e t ht).1, (e t ht).2]
  exact c t ht
theorem INV.txt {M M2 : Mem} (h : INV M) (q : ∀ k, k ≠ 1 → k ≠ 9 → k ≠ 10 → k ≠ 11 → k ≠ 30 → k ≠ 31 → k ≠ 50 → k ≠ 53 → k ≠ 55 → M2 k = M k) (q1 : ∀ i, i ≠ 0 → M2 1 i = M 1 i) (q9 : ∀ i, i ≠ cT (M 31 0 0) → M2 9 i = M 9 i ∧ M2 10 i = M 10 i) (z11 : M2 11 0 0 1 = 0) (z30 : M2 30 0 0 10 = 0) (h3 : M2 30 0 0 3 = M 30 0 0 3) (h36 : M2 30 0 0 36 = M 30 0 0 36) (hN : INow M2) (hc : cT (M 31 0 0) ≤ cT (M2 31 0 0)) : INV M2 := by
  obtain ⟨a, b, c, d, e, g, k⟩ := h
  have qq : ∀ k, k = 0 ∨ (1 < k ∧ k < 9) ∨ (11 < k ∧ k < 30) ∨ (31 < k ∧ k < 50) ∨ 55 < k → M2 k = M k := fun k hk => q k (by omega) (by omega) (by omega) (by omega) (by omega) (by omega) (by omega) (by omega) (by omega)
  have e0 : M2 0 = M 0 := qq 0 (by omega)
  have e3 : M2 3 = M 3 := qq 3 (by omega)
  have e5 : M2 5 = M 5 := qq 5 (by omega)
  have e16 : M2 16 = M 16 := qq 16 (by omega)
  have e17 : M2 17 = M 17 := qq 17 (by omega)
  have e32 : M2 32 = M 32 := qq 32 (by omega)
  refine ⟨hN, ⟨?_, ?_⟩,
    c.cg (fun s _ => by rw [e16]) (fun s _ => by rw [e17]) (qq 58 (by omega)) (qq 59 (by omega)) (qq 60 (by omega)),
    d.cg (qq 19 (by omega)) (by rw [e3]) (fun s _ => by rw [e16]) (fun s _ => by rw [e17]) (qq 61 (by omega)) (qq 62 (by omega)) (qq 63 (by omega)) (qq 64 (by omega)),
    e.cg (by rw [e0]) h36 (qq 20 (by omega)) (qq 66 (by omega)),
    ⟨z11.trans z30.symm, 0, by omega, z30, fun i hi => absurd hi (Nat.not_lt_zero _)⟩,
    k.cg (qq 48 (by omega)) (qq 49 (by omega))⟩
  · rw [e0, h3]; exact b.1
  · rw [e0, e32]
    refine b.2.imp id fun z => ⟨z.1, z.2.1.fr (q1 2 (by decide)) (by rw [e3]) (by rw [e5]), z.2.2.1.ix (fun i hi => q9 i (by have := z.2.2.2.2; omega)), z.2.2.2.1, by have := z.2.2.2.2; omega⟩
def nRow (F : FA) (t ky : Nat) (ps : List Int32) : FA := upd (NRw F t ky ps ps.length) 9 (nI (t + 1))
section W56
variable {F : FA} {t ky : Nat} {ps : List Int32}
theorem nRow_lo {i : Nat} (h : i < 86) (h9 : i ≠ 9) : nRow F t ky ps i = F i := by
  unfold nRow
  rw [upd_ne h9, NRw_lo h]
theorem nRow_9 : nRow F t ky ps 9 = nI (t + 1) := upd_at _ _ _
theorem nRow_k : nRow F t ky ps (86 + 2 * t) = nI (1000 * ky + ps.length) := by
  unfold nRow
  rw [upd_ne (by omega)]
  exact if_pos rfl
theorem nRow_a : nRow F t ky ps (87 + 2 * t) = nI (lvN ps) := by
  unfold nRow NRw
  rw [upd_ne (by omega), if_neg (by omega), if_pos rfl]
theorem nRow_c {k : Nat} (ht : t < 14) (hk : k < ps.length) : nRow F t ky ps (114 + 96 * t + k) = ps.getD k 0 := by
  unfold nRow NRw
  rw [upd_ne (by omega), if_neg (by omega), if_neg (by omega), if_pos (by omega)]
  congr 1
  omega
theorem nRow_o {i : Nat} (h9 : i ≠ 9) (h1 : i ≠ 86 + 2 * t) (h2 : i ≠ 87 + 2 * t) (h3 : i < 114 + 96 * t) : nRow F t ky ps i = F i := by
  unfold nRow NRw
  rw [upd_ne h9, if_neg h1, if_neg h2, if_neg (by omega)]
theorem nRow_ct (ht : t < 14) : cT (nRow F t ky ps) = t + 1 := by
  unfold cT
  rw [nRow_9, nI_clamp (by omega)]
theorem nRow_len (hk : ky < 3) (hl : ps.length ≤ 96) : lenF (nRow F t ky ps) t = ps.length := by
  unfold lenF
  rw [nRow_k, nI_rem1000 ky hk _ (by omega), nI_clamp (by omega)]
theorem nRow_len0 {s : Nat} (ht : t < 14) (hs : s < t) : lenF (nRow F t ky ps) s = lenF F s := by
  unfold lenF
  rw [nRow_o (by omega) (by omega) (by omega) (by omega)]
theorem nRow_ok (ht : t < 14) (hk : ky < 3) (hl : ps.length ≤ 96) (ho : okR (if ky = 0 then 3 else 2) ps 0 1) : txOk (nRow F t ky ps) t := by
  refine ⟨ky, hk, by rw [nRow_len hk hl]; exact nRow_k, ?_⟩
  rw [nRow_len hk hl]
  exact okR_okS (by split <;> omega) hl (fun k hk => nRow_c ht hk) ho
theorem nRow_ok0 {s : Nat} (ht : t < 14) (hs : s < t) (h : txOk F s) : txOk (nRow F t ky ps) s := by
  obtain ⟨ky', k1, k2, k3⟩ := h
  refine ⟨ky', k1, by rw [nRow_len0 ht hs, nRow_o (by omega) (by omega) (by omega) (by omega)]; exact k2, ?_⟩
  rw [nRow_len0 ht hs]
  have hl := k3.2.1
  exact okS_pw (fun k hk => nRow_o (by omega) (by omega) (by omega) (by omega)) k3
theorem nRow_cn (h : CN F) (ht : t < 14) : CN (nRow F t ky ps) := by
  obtain ⟨a, b, c, d, e, g⟩ := h
  have eb : cB (nRow F t ky ps) = cB F := by unfold cB; rw [nRow_lo (by decide) (by decide)]
  have ep : cP (nRow F t ky ps) = cP F := by unfold cP; rw [nRow_lo (by decide) (by decide)]
  refine ⟨?_, ?_, ?_, ?_, ?_, ?_⟩
  · rw [eb, nRow_lo (by decide) (by decide)]; exact a
  · rw [eb]; exact b
  · rw [ep, nRow_lo (by decide) (by decide)]; exact c
  · rw [ep]; exact d
  · rw [nRow_ct ht]; exact nRow_9
  · rw [nRow_ct ht]; omega
theorem nRow_all {M M2 : Mem} (h : LL M 0 F ∧ TX M F ∧ WF 10000 F) (et : cT F = t) (ht : t < 14) (hk : ky < 3) (hl : ps.length ≤ 96) (ho : okR (if ky = 0 then 3 else 2) ps 0 1)
    (h1 : ∀ s, s ≠ 12 → M2 1 0 0 s = M 1 0 0 s) (h12 : M2 1 0 0 12 = nI (t + 1)) (h3 : M2 3 0 = M 3 0) (h5 : M2 5 0 = M 5 0) (q9 : ∀ i, i ≠ t → M2 9 i = M 9 i ∧ M2 10 i = M 10 i)
    (f0 : M2 9 t 0 0 = nI ky) (f2 : M2 9 t 0 2 = nI ps.length) (f3 : M2 9 t 0 3 = nI (lvN ps)) (f4 : ∀ k, k < ps.length → M2 10 t 0 k = phi (ps.getD k 0)) : LL M2 0 (nRow F t ky ps) ∧ TX M2 (nRow F t ky ps) ∧ WF 10000 (nRow F t ky ps) := by
  obtain ⟨⟨hC, l1, l2, l3⟩, ⟨t1, t2, t3, t4⟩, ⟨⟨-, n2, n3⟩, w2, w3, w4⟩⟩ := h
  have hcn := nRow_cn (t := t) (ky := ky) (ps := ps) hC ht
  have eb : cB (nRow F t ky ps) = cB F := by unfold cB; rw [nRow_lo (by decide) (by decide)]
  have ep : cP (nRow F t ky ps) = cP F := by unfold cP; rw [nRow_lo (by decide) (by decide)]
  have b10 := hC.2.1
  have p9 := hC.2.2.2.1
  have hok : ∀ s, s < t + 1 → txOk (nRow F t ky ps) s := fun s hs => by
    by_cases z : s = t
    · subst z; exact nRow_ok ht hk hl ho
    · exact nRow_ok0 ht (by omega) (t4 s (by omega))
  refine ⟨⟨hcn, ?_, ?_, ?_⟩, ⟨?_, ?_, ?_, ?_⟩, ⟨⟨hcn, ?_, ?_⟩, ?_, ?_, ?_⟩⟩
  · rw [h1 2 (by decide), h1 10 (by decide), h1 5 (by decide), h1 4 (by decide), h1 6 (by decide), h1 7 (by decide), h1 8 (by decide), h1 9 (by decide), h1 11 (by decide), h12, nRow_9]
    rw [nRow_lo (i := 1) (by decide) (by decide), nRow_lo (i := 2) (by decide) (by decide), nRow_lo (i := 3) (by decide) (by decide), nRow_lo (i := 4) (by decide) (by decide), nRow_lo (i := 5) (by decide) (by decide), nRow_lo (i := 6) (by decide) (by decide), nRow_lo (i := 7) (by decide) (by decide), nRow_lo (i := 8) (by decide) (by decide), nRow_lo (i := 0) (by decide) (by decide)]
    obtain ⟨x1, x2, x3, x4, x5, x6, x7, x8, -, x10⟩ := l1
    exact ⟨x1, x2, x3, x4, x5, x6, x7, x8, rfl, x10⟩
  · intro b hb
    rw [eb] at hb
    rw [h3, nRow_lo (by omega) (by omega), nRow_lo (by omega) (by omega), nRow_lo (by omega) (by omega), nRow_lo (by omega) (by omega)]
    exact l2 b hb
  · intro p hp
    rw [ep] at hp
    rw [h5, nRow_lo (by omega) (by omega), nRow_lo (by omega) (by omega), nRow_lo (by omega) (by omega), nRow_lo (by omega) (by omega)]
    exact l3 p hp
  · rw [nRow_ct ht]; omega
  · rw [nRow_ct ht]; exact nRow_9
  · intro s hs
    rw [nRow_ct ht] at hs
    by_cases z : s = t
    · subst z
      rw [nRow_len hk hl, nRow_k, nRow_a]
      refine ⟨f0.trans (nI_div1000 ky hk _ (by omega)).symm, f2.trans (nI_rem1000 ky hk _ (by omega)).symm, f3, fun k hk => ?_⟩
      rw [nRow_c ht hk]
      exact f4 k hk
    · rw [nRow_len0 ht (by omega), nRow_o (by omega) (by omega) (by omega) (by omega), nRow_o (by omega) (by omega) (by omega) (by omega), (q9 s z).1, (q9 s z).2]
      have hl96 := (t4 s (by omega)).len.2
      obtain ⟨y1, y2, y3, y4⟩ := t3 s (by omega)
      refine ⟨y1, y2, y3, fun k hk => ?_⟩
      rw [nRow_o (by omega) (by omega) (by omega) (by omega)]
      exact y4 k hk
  · intro s hs
    rw [nRow_ct ht] at hs
    exact hok s hs
  · intro s hs
    rw [nRow_ct ht] at hs
    exact hok s hs
  · rw [nRow_lo (by decide) (by decide)]; exact n3
  · intro p hp
    rw [ep] at hp
    rw [nRow_lo (by omega) (by omega), nRow_lo (by omega) (by omega)]
    exact w2 p hp
  · intro b hb
    rw [eb] at hb
    rw [nRow_lo (by omega) (by omega), nRow_lo (by omega) (by omega), nRow_lo (by omega) (by omega)]
    exact w3 b hb
  · intro p hp
    rw [ep] at hp
    rw [nRow_lo (by omega) (by omega)]
    exact w4 p hp
end W56
theorem op_text : OpOK 94 195 [] := by
  intro M hI d hd
  obtain ⟨w1, n, hn, w2, w3⟩ := hI.2.2.2.2.2.1
  have hK := hI.2.2.2.2.2.2
  have hL := hI.ll
  have e9 : M 31 0 0 9 = nI (cT (M 31 0 0)) := hL.1.2.2.2.2.1
  have hh : ∀ M1, FXt (cT (M 31 0 0)) M M1 → M1 30 0 0 10 = nI n ∧ (∀ i, i < n → M1 40 0 0 i = M 12 0 0 i) ∧ IKey M1 ∧ M1 31 0 0 9 = nI (cT (M 31 0 0)) := fun M1 a => ⟨by rw [a.1 30 (by decide) (by decide) (by decide)]; exact w2, fun i hi => by rw [a.1 40 (by decide) (by decide) (by decide)]; exact (w3 i hi).1.symm, hK.cg (a.1 48 (by decide) (by decide) (by decide)) (a.1 49 (by decide) (by decide) (by decide)), by rw [a.1 31 (by decide) (by decide) (by decide)]; exact e9⟩
  have same : ∀ M1 M2, FXt (cT (M 31 0 0)) M M1 → FRt M1 M2 → M2 31 = M1 31 → INV M2 ∧ Kp M1 M2 := by
    intro M1 M2 a b c
    have e31 : M2 31 = M 31 := c.trans (a.1 31 (by decide) (by decide) (by decide))
    have q9 : ∀ i, i ≠ cT (M 31 0 0) → M2 9 i = M 9 i ∧ M2 10 i = M 10 i := fun i hi => by
      rw [b.1 9 (by decide) (by decide) (by decide) (by decide) (by decide), b.1 10 (by decide) (by decide) (by decide) (by decide) (by decide)]
      exact a.2.1 i hi
    have e1 : M2 1 = M 1 := (b.1 1 (by decide) (by decide) (by decide) (by decide) (by decide)).trans (a.1 1 (by decide) (by decide) (by decide))
    refine ⟨hI.txt (fun k h1 h2 h3 h4 h5 h6 h7 h8 h9 => (b.1 k h5 h6 h7 h8 h9).trans (a.1 k h2 h3 h4)) (fun i _ => by rw [e1]) q9 ?_ b.2.1 ?_ ?_ ?_ (by rw [e31]; exact Nat.le_refl _), ⟨b.1 90 (by decide) (by decide) (by decide) (by decide) (by decide), b.1 91 (by decide) (by decide) (by decide) (by decide) (by decide)⟩⟩
    · rw [b.1 11 (by decide) (by decide) (by decide) (by decide) (by decide)]; exact a.2.2
    · rw [b.2.2 3 (by omega), a.1 30 (by decide) (by decide) (by decide)]
    · rw [b.2.2 36 (by omega), a.1 30 (by decide) (by decide) (by decide)]
    · unfold INow
      rw [e31]
      refine ⟨hL.fr (by rw [e1]) ?_ ?_, hI.tx.ix (fun i hi => q9 i (by omega)), hI.wf⟩
      · rw [b.1 3 (by decide) (by decide) (by decide) (by decide) (by decide), a.1 3 (by decide) (by decide) (by decide)]
      · rw [b.1 5 (by decide) (by decide) (by decide) (by decide) (by decide), a.1 5 (by decide) (by decide) (by decide)]
  refine c_text (n := n) (t := cT (M 31 0 0)) (f := M 12 0 0) (by omega) hn hL.t14 (fun i hi => (w3 i hi).2) (w1.trans w2) (fun _ _ => rfl) hL.tc (fun p hp M1 a => ?_) (fun ky ps hp ht M1 a => ?_) (fun ky ps hp ht M1 a f0 f2 f3 f4 => ?_)
  · obtain ⟨h1, h2, h3, h4⟩ := hh M1 a
    refine ⟨_, rfl, ⟨a.1 90 (by decide) (by decide) (by decide), a.1 91 (by decide) (by decide) (by decide)⟩, ?_⟩
    exact m_textF (by omega) hn h1 h2 h3 hp (fun M2 b c => ⟨rfl, same M1 M2 a b c⟩)
  · obtain ⟨h1, h2, h3, h4⟩ := hh M1 a
    refine ⟨_, rfl, ⟨a.1 90 (by decide) (by decide) (by decide), a.1 91 (by decide) (by decide) (by decide)⟩, ?_⟩
    exact m_textG (by omega) hn hL.t14 h1 h2 h3 h4 hp (fun _ M2 b c => ⟨rfl, same M1 M2 a b c⟩) (fun z => absurd z ht)
  · obtain ⟨h1, h2, h3, h4⟩ := hh M1 a
    refine ⟨_, rfl, ⟨by rw [mz_k (by decide)]; exact a.1 90 (by decide) (by decide) (by decide), by rw [mz_k (by decide)]; exact a.1 91 (by decide) (by decide) (by decide)⟩, ?_⟩
    refine m_textG (t := cT (M 31 0 0)) (ky := ky) (ps := ps) (n := n) (f := M 12 0 0) (by omega) hn hL.t14 (by rw [mz_k (by decide)]; exact h1) (fun i hi => by rw [mz_k (by decide)]; exact h2 i hi) (h3.cg (mz_k (by decide)) (mz_k (by decide))) (by rw [mz_k (by decide)]; exact h4) hp (fun z => absurd ht z) (fun _ M2 b c => ⟨rfl, ?_, ⟨b.1 90 (by decide) (by decide) (by decide) (by decide) (by decide), b.1 91 (by decide) (by decide) (by decide) (by decide) (by decide)⟩⟩)
    obtain ⟨hl96, hoR⟩ := hp.ok hn
    have e31 : M1 31 = M 31 := a.1 31 (by decide) (by decide) (by decide)
    rw [mz_k (by decide), e31] at c
    have c' : M2 31 0 0 = nRow (M 31 0 0) (cT (M 31 0 0)) ky ps := c
    have bk : ∀ k, k ≠ 30 → k ≠ 31 → k ≠ 50 → k ≠ 53 → k ≠ 55 → k ≠ 1 → M2 k = M1 k := fun k h1 h2 h3 h4 h5 h6 => (b.1 k h1 h2 h3 h4 h5).trans (mz_k h6)
    have q9 : ∀ i, i ≠ cT (M 31 0 0) → M2 9 i = M 9 i ∧ M2 10 i = M 10 i := fun i hi => by
      rw [bk 9 (by decide) (by decide) (by decide) (by decide) (by decide) (by decide), bk 10 (by decide) (by decide) (by decide) (by decide) (by decide) (by decide)]
      exact a.2.1 i hi
    have b1 : M2 1 = mu M1 1 0 0 12 (nI (cT (M 31 0 0) + 1)) 1 := b.1 1 (by decide) (by decide) (by decide) (by decide) (by decide)
    have a1 : M1 1 = M 1 := a.1 1 (by decide) (by decide) (by decide)
    refine hI.txt (fun k h1 h2 h3 h4 h5 h6 h7 h8 h9 => (bk k h5 h6 h7 h8 h9 h1).trans (a.1 k h2 h3 h4)) (fun i hi => ?_) q9 ?_ b.2.1 ?_ ?_ ?_ ?_
    · rw [b1, ← a1]; funext j; rw [mz_ne (by omega)]
    · rw [bk 11 (by decide) (by decide) (by decide) (by decide) (by decide) (by decide)]; exact a.2.2
    · rw [b.2.2 3 (by omega), mz_k (by decide), a.1 30 (by decide) (by decide) (by decide)]
    · rw [b.2.2 36 (by omega), mz_k (by decide), a.1 30 (by decide) (by decide) (by decide)]
    · unfold INow
      rw [c']
      refine nRow_all ⟨hL, hI.tx, hI.wf⟩ rfl ht hp.1 hl96 hoR (fun s hs => ?_) ?_ ?_ ?_ q9 ?_ ?_ ?_ (fun k hk => ?_)
      · rw [b1, mz_sl hs, a1]
      · rw [b1, mz_at]
      · rw [bk 3 (by decide) (by decide) (by decide) (by decide) (by decide) (by decide), a.1 3 (by decide) (by decide) (by decide)]
      · rw [bk 5 (by decide) (by decide) (by decide) (by decide) (by decide) (by decide), a.1 5 (by decide) (by decide) (by decide)]
      · rw [bk 9 (by decide) (by decide) (by decide) (by decide) (by decide) (by decide)]; exact f0
      · rw [bk 9 (by decide) (by decide) (by decide) (by decide) (by decide) (by decide)]; exact f2
      · rw [bk 9 (by decide) (by decide) (by decide) (by decide) (by decide) (by decide)]; exact f3
      · rw [bk 10 (by decide) (by decide) (by decide) (by decide) (by decide) (by decide)]; exact f4 k hk
    · rw [c', nRow_ct ht]
      omega
theorem lawRun : LawRun := lawRun_of_text op_text
