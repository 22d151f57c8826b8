-- 48.pure19: questions: beds, folk, land, texts
noncomputable def iteC (p : Prop) (a b : Int32) : Int32 := @ite _ p (Classical.propDecidable p) a b
theorem iteC_t {p : Prop} {a b : Int32} (h : p) : iteC p a b = a := by unfold iteC; rw [if_pos h]
theorem iteC_f {p : Prop} {a b : Int32} (h : ¬ p) : iteC p a b = b := by unfold iteC; rw [if_neg h]
theorem FrS.of8 {M M' : Mem} (h : ∀ k, k ≠ 8 → M' k = M k) : FrS M M' := ⟨by rw [h 31 (by decide)], fun k i z => by rw [h k (fun e => z (Or.inl e))]⟩
theorem FrS.ofm {M M' : Mem} (h : ∀ k, k ≠ 56 → k ≠ 57 → M' k = M k) : FrS M M' := ⟨by rw [h 31 (by decide) (by decide)], fun k i z => by rw [h k (fun e => z (by unfold Sc; omega)) (fun e => z (by unfold Sc; omega))]⟩
theorem FrS.k31 {M M' : Mem} (h : FrS M M') : M' 31 0 0 = M 31 0 0 := h.1
theorem FrS.k30 {M M' : Mem} (h : FrS M M') : M' 30 = M 30 := h.kd (fun i => by unfold Sc; omega)
def told1 (f : FA) (j : Nat) (w : Int32) : Int32 := if w = 0 then f (10 + 4 * j) else if w = 1 then f (11 + 4 * j) else if w = 2 then f (12 + 4 * j) else if w = 3 then f (13 + 4 * j) else if w = 4 then wideI (f (10 + 4 * j)) else if w = 5 then takesF f j 1 else if w = 6 then takesF f j 2 else if w = 7 then leadsI (f (10 + 4 * j)) (f (12 + 4 * j)) (f (13 + 4 * j)) else if w = 8 then worthI (f (10 + 4 * j)) (f (11 + 4 * j)) (f (12 + 4 * j)) (f (13 + 4 * j)) else -1000000001
noncomputable def toldV (f : FA) (b w : Int32) : Int32 := iteC (isBd (cB f) b) (told1 f b.toNatClampNeg w) (-1000000001)
noncomputable def asV (f : FA) (b k : Int32) : Int32 := iteC (isBd (cB f) b ∧ isBd 6 k) (iteC (undP (f (10 + 4 * b.toNatClampNeg)) k) (f (12 + 4 * b.toNatClampNeg)) (-1000000012)) (-1000000001)
noncomputable def folk1 (f : FA) (j : Nat) (w : Int32) : Int32 := if w = 0 then f (50 + 4 * j) else if w = 1 then f (51 + 4 * j) else if w = 2 then f (52 + 4 * j) else if w = 3 then f (53 + 4 * j) else if w = 4 then hoursF f j else -1000000001
theorem folk1_0 {f : FA} {j : Nat} : folk1 f j 0 = f (50 + 4 * j) := by simp [folk1]
theorem folk1_1 {f : FA} {j : Nat} : folk1 f j 1 = f (51 + 4 * j) := by simp [folk1]
theorem folk1_2 {f : FA} {j : Nat} : folk1 f j 2 = f (52 + 4 * j) := by simp [folk1]
theorem folk1_3 {f : FA} {j : Nat} : folk1 f j 3 = f (53 + 4 * j) := by simp [folk1]
theorem folk1_4 {f : FA} {j : Nat} : folk1 f j 4 = hoursF f j := by simp [folk1]
noncomputable def folkV (f : FA) (b w : Int32) : Int32 := iteC (isBd (cP f) b) (folk1 f b.toNatClampNeg w) (-1000000001)
noncomputable def whoV (f : FA) (t : Int32) : Int32 := iteC (isBd 8 t) (nI (setF (fun p => f (50 + 4 * p) = t) (cP f))) (-1000000001)
noncomputable def landV (f : FA) (w : Int32) : Int32 := if w = 0 then f 5 else if w = 1 then f 6 else if w = 2 then f 7 else if w = 3 then f 8 else if w = 4 then nI (homeF f) else if w = 5 then nI (setF (fun p => ¬ f (53 + 4 * p) = 0) (cP f)) else if w = 6 then f 4 else -1000000001
def countV (M : Mem) (w : Int32) : Int32 := if w = 0 then M 31 0 0 1 else if w = 1 then M 31 0 0 2 else if w = 2 then M 31 0 0 3 else if w = 3 then M 31 0 0 4 else if w = 4 then M 31 0 0 9 else if w = 5 then M 30 0 0 36 else if w = 6 then M 30 0 0 10 else if w = 7 then M 31 0 0 0 else -1000000001
noncomputable def textToldV (f : FA) (t w : Int32) : Int32 := iteC (isBd (cT f) t ∧ isBd 2 w) (if w = 0 then f (86 + 2 * t.toNatClampNeg) / 1000 else f (87 + 2 * t.toNatClampNeg)) (-1000000001)
noncomputable def whyV (f : FA) (k : Int32) : Int32 := iteC (isBd 3 k) (if 0 ≤ countsF f k (cT f) then countsF f k (cT f) else -1000000005) (-1000000001)
noncomputable def feeV (f : FA) : Int32 := if 0 ≤ countsF f 1 (cT f) then worthT f (countsF f 1 (cT f)).toNatClampNeg (f 5) (f 6) 0 else f 5
noncomputable def fineV (f : FA) (b : Int32) : Int32 := iteC (isBd (cB f) b) (if 0 ≤ countsF f 2 (cT f) then worthT f (countsF f 2 (cT f)).toNatClampNeg (f (11 + 4 * b.toNatClampNeg)) (f (12 + 4 * b.toNatClampNeg)) 0 else f (12 + 4 * b.toNatClampNeg)) (-1000000001)
theorem runS_z {x y z z' : Int32} {c : FA} {nm : Nat} (hn : nm ≤ 2) : ∀ n, (∀ k, k < n → (isBd (10000 + nm) (c k) ∨ (c k = -10 ∧ 1 ≤ depS c k) ∨ (∃ j, 1 ≤ j ∧ j < 10 ∧ c k = - nI j ∧ 2 ≤ depS c k))) → runS x y z c n = runS x y z' c n := by
  intro n
  induction n with
  | zero => intro _; rfl
  | succ n ih =>
    intro h
    show sgS x y z (c n) (runS x y z c n) = sgS x y z' (c n) (runS x y z' c n)
    rw [ih (fun k hk => h k (by omega))]
    rcases h n (by omega) with ⟨j, hj, e⟩ | ⟨e, _⟩ | ⟨j, j1, j2, e, _⟩
    · rw [e, sgS_lo (by omega), sgS_lo (by omega)]
      by_cases h1 : j < 10000
      · have h2 : nI j < 10000 := nI_lt (b := 10000) h1 (by decide)
        rw [if_pos h2, if_pos h2]
      · obtain rfl | rfl : j = 10000 ∨ j = 10001 := by omega
        · rfl
        · rfl
    · rw [e, sgS_n10, sgS_n10]
    · rw [e, sgS_op j1 j2, sgS_op j1 j2]
theorem worth_z {f : FA} {t : Nat} {x y z z' : Int32} (h : txOk f t) (hk : ¬ f (86 + 2 * t) / 1000 = 0) : worthT f t x y z = worthT f t x y z' := by
  obtain ⟨ky, k1, k2, k3⟩ := h
  have hl : lenF f t < 97 := by have := k3.2.1; omega
  have h0 : ¬ ky = 0 := fun e => hk (by rw [k2, nI_div1000 ky k1 _ hl, e]; rfl)
  rw [if_neg h0] at k3
  unfold worthT
  rw [runS_z (Nat.le_refl 2) (lenF f t) k3.2.2.2]
theorem c_told {M : Mem} {Q : PQ} {d : Nat} {b w : Int32} (hd : 500 ≤ d) (hI : INV M) (hQ : ∀ M', FrS M M' → Q (some (.inl (toldV (M 31 0 0) b w))) M') : Td PR d 67 [.inr (0, 0, 0), .inl b, .inl w] M Q := by
  have hL := hI.ll
  have hC := hI.cn
  have hb10 := hL.b10
  have hp9 := hL.p9
  have ht14 := hL.t14
  generalize hV : toldV (M 31 0 0) b w = W at hQ
  obtain ⟨e, rfl⟩ : ∃ e, d = e + 1 := ⟨d - 1, by omega⟩
  refine td_X9_told ?_
  intro S hS
  iterate 3 refine hS _ _ _ _ ?_
  refine sp_isBed (by omega) hL ?_
  refine hS _ _ _ _ ?_
  refine And.intro (fun h5 => ?_) (fun h5 => ?_)
  · replace h5 := bI_t h5
    obtain ⟨j, hj, rfl⟩ := h5
    rw [toldV, iteC_t ⟨j, hj, rfl⟩, nI_clamp (by omega)] at hV
    have e0 := hL.kind hj
    have e1 := hL.at hj
    have e2 := hL.to hj
    have e3 := hL.other hj
    have en := hL.night
    iterate 5 refine hS _ _ _ _ ?_
    refine ⟨(by first | assumption | exact vp_in_nI (by simp only [alen]; omega) (by decide)), ?_⟩
    try rw [nI_clamp (by omega)]
    iterate 3 refine hS _ _ _ _ ?_
    refine And.intro (fun h22_0 => ?_) (fun h22_0 => ?_)
    · iterate 3 refine hS _ _ _ _ ?_
      refine qv (hQ _ FrS.rf) ?_
      rw [← hV]
      clear hV hQ
      simp_all [told1, takesF]
    refine And.intro (fun h22_1 => ?_) (fun h22_1 => ?_)
    · iterate 3 refine hS _ _ _ _ ?_
      refine qv (hQ _ FrS.rf) ?_
      rw [← hV]
      clear hV hQ
      simp_all [told1, takesF]
    refine And.intro (fun h22_2 => ?_) (fun h22_2 => ?_)
    · iterate 3 refine hS _ _ _ _ ?_
      refine qv (hQ _ FrS.rf) ?_
      rw [← hV]
      clear hV hQ
      simp_all [told1, takesF]
    refine And.intro (fun h22_3 => ?_) (fun h22_3 => ?_)
    · iterate 3 refine hS _ _ _ _ ?_
      refine qv (hQ _ FrS.rf) ?_
      rw [← hV]
      clear hV hQ
      simp_all [told1, takesF]
    refine And.intro (fun h22_4 => ?_) (fun h22_4 => ?_)
    · iterate 2 refine hS _ _ _ _ ?_
      refine sp_wide (by omega) ?_
      refine hS _ _ _ _ ?_
      refine qv (hQ _ FrS.rf) ?_
      rw [← hV]
      clear hV hQ
      simp_all [told1, takesF]
    refine And.intro (fun h22_5 => ?_) (fun h22_5 => ?_)
    · iterate 6 refine hS _ _ _ _ ?_
      refine sp_takes (by omega) ?_
      refine hS _ _ _ _ ?_
      refine qv (hQ _ FrS.rf) ?_
      rw [← hV]
      clear hV hQ
      simp_all [told1, takesF]
    refine And.intro (fun h22_6 => ?_) (fun h22_6 => ?_)
    · iterate 6 refine hS _ _ _ _ ?_
      refine sp_takes (by omega) ?_
      refine hS _ _ _ _ ?_
      refine qv (hQ _ FrS.rf) ?_
      rw [← hV]
      clear hV hQ
      simp_all [told1, takesF]
    refine And.intro (fun h22_7 => ?_) (fun h22_7 => ?_)
    · iterate 2 refine hS _ _ _ _ ?_
      refine sp_leads (by omega) ?_
      refine hS _ _ _ _ ?_
      refine qv (hQ _ FrS.rf) ?_
      rw [← hV]
      clear hV hQ
      simp_all [told1, takesF]
    refine And.intro (fun h22_8 => ?_) (fun h22_8 => ?_)
    · iterate 2 refine hS _ _ _ _ ?_
      refine sp_worth (by omega) ?_
      refine hS _ _ _ _ ?_
      refine qv (hQ _ FrS.rf) ?_
      rw [← hV]
      clear hV hQ
      simp_all [told1, takesF]
    iterate 2 refine hS _ _ _ _ ?_
    refine qv (hQ _ FrS.rf) ?_
    rw [← hV]
    clear hV hQ
    simp_all [told1, takesF]
  · replace h5 := bI_f h5
    rw [toldV, iteC_f h5] at hV
    iterate 2 refine hS _ _ _ _ ?_
    exact qv (hQ _ FrS.rf) hV.symm
theorem m_told {M : Mem} {Q : PQ} {d : Nat} {b w : Int32} (hd : 500 ≤ d) (hI : INV M) (hQ : ∀ M', FrS M M' → Q (some (.inl (toldV (M 31 0 0) b w))) M') : Td PR d 137 [.inr (30, 0, 0), .inl b, .inl w] M Q := by
  have hL := hI.ll
  have hC := hI.cn
  have hb10 := hL.b10
  have hp9 := hL.p9
  have ht14 := hL.t14
  generalize hV : toldV (M 31 0 0) b w = W at hQ
  obtain ⟨e, rfl⟩ : ∃ e, d = e + 1 := ⟨d - 1, by omega⟩
  refine td_X10_told ?_
  intro S hS
  iterate 3 refine hS _ _ _ _ ?_
  refine sm_isBed (by omega) hC ?_
  refine hS _ _ _ _ ?_
  refine And.intro (fun h5 => ?_) (fun h5 => ?_)
  · replace h5 := bI_t h5
    obtain ⟨j, hj, rfl⟩ := h5
    rw [toldV, iteC_t ⟨j, hj, rfl⟩, nI_clamp (by omega)] at hV
    iterate 2 refine hS _ _ _ _ ?_
    refine And.intro (fun h12_0 => ?_) (fun h12_0 => ?_)
    · subst h12_0
      iterate 4 refine hS _ _ _ _ ?_
      refine sm_of0 (by omega) (by omega) ?_
      refine hS _ _ _ _ ?_
      refine qv (hQ _ FrS.rf) ?_
      rw [← hV]
      clear hV hQ
      simp_all [told1]
    refine And.intro (fun h12_1 => ?_) (fun h12_1 => ?_)
    · subst h12_1
      iterate 4 refine hS _ _ _ _ ?_
      refine sm_of1 (by omega) (by omega) ?_
      refine hS _ _ _ _ ?_
      refine qv (hQ _ FrS.rf) ?_
      rw [← hV]
      clear hV hQ
      simp_all [told1]
    refine And.intro (fun h12_2 => ?_) (fun h12_2 => ?_)
    · subst h12_2
      iterate 4 refine hS _ _ _ _ ?_
      refine sm_of2 (by omega) (by omega) ?_
      refine hS _ _ _ _ ?_
      refine qv (hQ _ FrS.rf) ?_
      rw [← hV]
      clear hV hQ
      simp_all [told1]
    refine And.intro (fun h12_3 => ?_) (fun h12_3 => ?_)
    · subst h12_3
      iterate 4 refine hS _ _ _ _ ?_
      refine sm_of3 (by omega) (by omega) ?_
      refine hS _ _ _ _ ?_
      refine qv (hQ _ FrS.rf) ?_
      rw [← hV]
      clear hV hQ
      simp_all [told1]
    refine And.intro (fun h12_4 => ?_) (fun h12_4 => ?_)
    · iterate 3 refine hS _ _ _ _ ?_
      refine sm_wideOf (by omega) (by omega) ?_
      refine hS _ _ _ _ ?_
      refine qv (hQ _ FrS.rf) ?_
      rw [← hV]
      clear hV hQ
      simp_all [told1]
    refine And.intro (fun h12_5 => ?_) (fun h12_5 => ?_)
    · iterate 4 refine hS _ _ _ _ ?_
      refine sm_takesTo (by omega) (by omega) (hI.nm.pos (by omega)) ?_
      refine hS _ _ _ _ ?_
      refine qv (hQ _ FrS.rf) ?_
      rw [← hV]
      clear hV hQ
      simp_all [told1]
    refine And.intro (fun h12_6 => ?_) (fun h12_6 => ?_)
    · iterate 4 refine hS _ _ _ _ ?_
      refine sm_takesTo (by omega) (by omega) (hI.nm.pos (by omega)) ?_
      refine hS _ _ _ _ ?_
      refine qv (hQ _ FrS.rf) ?_
      rw [← hV]
      clear hV hQ
      simp_all [told1]
    refine And.intro (fun h12_7 => ?_) (fun h12_7 => ?_)
    · iterate 3 refine hS _ _ _ _ ?_
      refine sm_leadsTo (by omega) (by omega) ?_
      refine hS _ _ _ _ ?_
      refine qv (hQ _ FrS.rf) ?_
      rw [← hV]
      clear hV hQ
      simp_all [told1]
    refine And.intro (fun h12_8 => ?_) (fun h12_8 => ?_)
    · iterate 3 refine hS _ _ _ _ ?_
      refine sm_worthOf (by omega) (by omega) ?_
      refine hS _ _ _ _ ?_
      refine qv (hQ _ FrS.rf) ?_
      rw [← hV]
      clear hV hQ
      simp_all [told1]
    iterate 2 refine hS _ _ _ _ ?_
    refine qv (hQ _ FrS.rf) ?_
    rw [← hV]
    clear hV hQ
    simp_all [told1]
  · replace h5 := bI_f h5
    rw [toldV, iteC_f h5] at hV
    iterate 2 refine hS _ _ _ _ ?_
    exact qv (hQ _ FrS.rf) hV.symm
theorem op_told {b w : Int32} : OpOK 67 137 [.inl b, .inl w] := op_q (fun M => toldV (M 31 0 0) b w) (fun M Q d hd hI hQ => c_told hd hI hQ) (fun M Q d hd hI hQ => m_told hd hI hQ) (fun M M' h => by simp only [h.k31])
theorem c_as {M : Mem} {Q : PQ} {d : Nat} {b k : Int32} (hd : 500 ≤ d) (hI : INV M) (hQ : ∀ M', FrS M M' → Q (some (.inl (asV (M 31 0 0) b k))) M') : Td PR d 68 [.inr (0, 0, 0), .inl b, .inl k] M Q := by
  have hL := hI.ll
  have hC := hI.cn
  have hb10 := hL.b10
  have hp9 := hL.p9
  have ht14 := hL.t14
  generalize hV : asV (M 31 0 0) b k = W at hQ
  obtain ⟨e, rfl⟩ : ∃ e, d = e + 1 := ⟨d - 1, by omega⟩
  refine td_X9_as ?_
  intro S hS
  iterate 3 refine hS _ _ _ _ ?_
  refine sp_isBed (by omega) hL ?_
  refine hS _ _ _ _ ?_
  refine And.intro (fun h5 => ?_) (fun h5 => ?_)
  · replace h5 := bI_f h5
    iterate 2 refine hS _ _ _ _ ?_
    rw [asV, iteC_f (fun z => h5 z.1)] at hV
    exact qv (hQ _ FrS.rf) hV.symm
  · replace h5 := bI_t h5
    iterate 2 refine hS _ _ _ _ ?_
    refine sp_isKind (by omega) ?_
    refine hS _ _ _ _ ?_
    refine And.intro (fun h12 => ?_) (fun h12 => ?_)
    · replace h12 := bI_t h12
      obtain ⟨j, hj, rfl⟩ := h5
      rw [asV, iteC_t ⟨⟨j, hj, rfl⟩, h12⟩, nI_clamp (by omega)] at hV
      have e0 := hL.kind hj
      have e2 := hL.to hj
      iterate 5 refine hS _ _ _ _ ?_
      refine ⟨(by first | assumption | exact vp_in_nI (by simp only [alen]; omega) (by decide)), ?_⟩
      try rw [nI_clamp (by omega)]
      iterate 4 refine hS _ _ _ _ ?_
      refine sp_isOf (by omega) ?_
      rw [e0]
      refine hS _ _ _ _ ?_
      refine And.intro (fun h33 => ?_) (fun h33 => ?_)
      · replace h33 := bI_f h33
        iterate 2 refine hS _ _ _ _ ?_
        rw [iteC_f h33] at hV
        exact qv (hQ _ FrS.rf) hV.symm
      · replace h33 := bI_t h33
        iterate 4 refine hS _ _ _ _ ?_
        rw [iteC_t h33] at hV
        exact qv (hQ _ FrS.rf) (hV.symm.trans e2.symm)
    · replace h12 := bI_f h12
      iterate 2 refine hS _ _ _ _ ?_
      rw [asV, iteC_f (fun z => h12 z.2)] at hV
      exact qv (hQ _ FrS.rf) hV.symm
theorem m_as {M : Mem} {Q : PQ} {d : Nat} {b k : Int32} (hd : 500 ≤ d) (hI : INV M) (hQ : ∀ M', FrS M M' → Q (some (.inl (asV (M 31 0 0) b k))) M') : Td PR d 139 [.inr (30, 0, 0), .inl b, .inl k] M Q := by
  have hL := hI.ll
  have hC := hI.cn
  have hb10 := hL.b10
  have hp9 := hL.p9
  have ht14 := hL.t14
  generalize hV : asV (M 31 0 0) b k = W at hQ
  obtain ⟨e, rfl⟩ : ∃ e, d = e + 1 := ⟨d - 1, by omega⟩
  refine td_X10_as ?_
  intro S hS
  iterate 3 refine hS _ _ _ _ ?_
  refine sm_isBed (by omega) hC ?_
  refine hS _ _ _ _ ?_
  refine And.intro (fun h5 => ?_) (fun h5 => ?_)
  · replace h5 := bI_f h5
    iterate 2 refine hS _ _ _ _ ?_
    rw [asV, iteC_f (fun z => h5 z.1)] at hV
    exact qv (hQ _ FrS.rf) hV.symm
  · replace h5 := bI_t h5
    iterate 4 refine hS _ _ _ _ ?_
    refine sm_in (by omega) ?_
    refine hS _ _ _ _ ?_
    refine And.intro (fun h14 => ?_) (fun h14 => ?_)
    · replace h14 := bI_t h14
      replace h14 := (in_bd1 (n := 5) (by omega)).mp h14
      obtain ⟨j, hj, rfl⟩ := h5
      rw [asV, iteC_t ⟨⟨j, hj, rfl⟩, h14⟩, nI_clamp (by omega)] at hV
      iterate 4 refine hS _ _ _ _ ?_
      refine sm_of0 (by omega) (by omega) ?_
      iterate 2 refine hS _ _ _ _ ?_
      refine sm_isUnder (by omega) ?_
      refine hS _ _ _ _ ?_
      refine And.intro (fun h30 => ?_) (fun h30 => ?_)
      · replace h30 := bI_f h30
        iterate 2 refine hS _ _ _ _ ?_
        rw [iteC_f h30] at hV
        exact qv (hQ _ FrS.rf) hV.symm
      · replace h30 := bI_t h30
        iterate 4 refine hS _ _ _ _ ?_
        refine sm_of2 (by omega) (by omega) ?_
        iterate 2 refine hS _ _ _ _ ?_
        rw [iteC_t h30] at hV
        exact qv (hQ _ FrS.rf) hV.symm
    · replace h14 := bI_f h14
      replace h14 := fun z => h14 ((in_bd1 (n := 5) (by omega)).mpr z)
      iterate 2 refine hS _ _ _ _ ?_
      rw [asV, iteC_f (fun z => h14 z.2)] at hV
      exact qv (hQ _ FrS.rf) hV.symm
theorem op_as {b k : Int32} : OpOK 68 139 [.inl b, .inl k] := op_q (fun M => asV (M 31 0 0) b k) (fun M Q d hd hI hQ => c_as hd hI hQ) (fun M Q d hd hI hQ => m_as hd hI hQ) (fun M M' h => by simp only [h.k31])
theorem c_folk {M : Mem} {Q : PQ} {d : Nat} {b w : Int32} (hd : 500 ≤ d) (hI : INV M) (hQ : ∀ M', FrS M M' → Q (some (.inl (folkV (M 31 0 0) b w))) M') : Td PR d 75 [.inr (0, 0, 0), .inl b, .inl w] M Q := by
  have hL := hI.ll
  have hC := hI.cn
  have hb10 := hL.b10
  have hp9 := hL.p9
  have ht14 := hL.t14
  generalize hV : folkV (M 31 0 0) b w = W at hQ
  obtain ⟨e, rfl⟩ : ∃ e, d = e + 1 := ⟨d - 1, by omega⟩
  refine td_X9_folk ?_
  intro S hS
  iterate 3 refine hS _ _ _ _ ?_
  refine sp_isOne (by omega) hL ?_
  refine hS _ _ _ _ ?_
  refine And.intro (fun h5 => ?_) (fun h5 => ?_)
  · replace h5 := bI_t h5
    obtain ⟨j, hj, rfl⟩ := h5
    rw [folkV, iteC_t ⟨j, hj, rfl⟩, nI_clamp (by omega)] at hV
    have e0 := hL.town hj
    have e1 := hL.home hj
    have e2 := hL.tired hj
    have e3 := hL.gone hj
    iterate 5 refine hS _ _ _ _ ?_
    refine ⟨(by first | assumption | exact vp_in_nI (by simp only [alen]; omega) (by decide)), ?_⟩
    try rw [nI_clamp (by omega)]
    iterate 3 refine hS _ _ _ _ ?_
    refine And.intro (fun h22_0 => ?_) (fun h22_0 => ?_)
    · iterate 3 refine hS _ _ _ _ ?_
      refine qv (hQ _ FrS.rf) ?_
      rw [← hV]
      clear hV hQ
      simp_all [folk1]
    refine And.intro (fun h22_1 => ?_) (fun h22_1 => ?_)
    · iterate 3 refine hS _ _ _ _ ?_
      refine qv (hQ _ FrS.rf) ?_
      rw [← hV]
      clear hV hQ
      simp_all [folk1]
    refine And.intro (fun h22_2 => ?_) (fun h22_2 => ?_)
    · iterate 3 refine hS _ _ _ _ ?_
      refine qv (hQ _ FrS.rf) ?_
      rw [← hV]
      clear hV hQ
      simp_all [folk1]
    refine And.intro (fun h22_3 => ?_) (fun h22_3 => ?_)
    · iterate 3 refine hS _ _ _ _ ?_
      refine qv (hQ _ FrS.rf) ?_
      rw [← hV]
      clear hV hQ
      simp_all [folk1]
    refine And.intro (fun h22_4 => ?_) (fun h22_4 => ?_)
    · iterate 7 refine hS _ _ _ _ ?_
      refine sp_lawOf (by omega) hL hI.tx ?_
      refine hS _ _ _ _ ?_
      refine sp_hours (by omega) hL hI.tx hj (fun M1 f1 => ?_)
      refine hS _ _ _ _ ?_
      refine qv (hQ _ (FrS.of8 f1)) ?_
      rw [← hV]
      subst h22_4
      exact folk1_4
    iterate 2 refine hS _ _ _ _ ?_
    refine qv (hQ _ FrS.rf) ?_
    rw [← hV]
    clear hV hQ
    simp_all [folk1]
  · replace h5 := bI_f h5
    rw [folkV, iteC_f h5] at hV
    iterate 2 refine hS _ _ _ _ ?_
    exact qv (hQ _ FrS.rf) hV.symm
theorem m_folk {M : Mem} {Q : PQ} {d : Nat} {b w : Int32} (hd : 500 ≤ d) (hI : INV M) (hQ : ∀ M', FrS M M' → Q (some (.inl (folkV (M 31 0 0) b w))) M') : Td PR d 149 [.inr (30, 0, 0), .inl b, .inl w] M Q := by
  have hL := hI.ll
  have hC := hI.cn
  have hb10 := hL.b10
  have hp9 := hL.p9
  have ht14 := hL.t14
  generalize hV : folkV (M 31 0 0) b w = W at hQ
  obtain ⟨e, rfl⟩ : ∃ e, d = e + 1 := ⟨d - 1, by omega⟩
  refine td_X10_folk ?_
  intro S hS
  iterate 3 refine hS _ _ _ _ ?_
  refine sm_isOne (by omega) hC ?_
  refine hS _ _ _ _ ?_
  refine And.intro (fun h5 => ?_) (fun h5 => ?_)
  · replace h5 := bI_f h5
    iterate 2 refine hS _ _ _ _ ?_
    rw [folkV, iteC_f h5] at hV
    exact qv (hQ _ FrS.rf) hV.symm
  · replace h5 := bI_t h5
    obtain ⟨j, hj, rfl⟩ := h5
    rw [folkV, iteC_t ⟨j, hj, rfl⟩, nI_clamp (by omega)] at hV
    iterate 4 refine hS _ _ _ _ ?_
    refine sm_in (by omega) ?_
    refine hS _ _ _ _ ?_
    refine And.intro (fun h14 => ?_) (fun h14 => ?_)
    · replace h14 := bI_t h14
      replace h14 := (in_bd1 (n := 4) (by omega)).mp h14
      iterate 3 refine hS _ _ _ _ ?_
      refine And.intro (fun h22 => ?_) (fun h22 => ?_)
      · iterate 4 refine hS _ _ _ _ ?_
        obtain ⟨i, hi, rfl⟩ := h14
        obtain rfl | rfl | rfl | rfl : i = 0 ∨ i = 1 ∨ i = 2 ∨ i = 3 := by
          have : i ≠ 4 := fun z => h22 (by rw [z]; rfl)
          omega
        · refine sm_by0 (by omega) (by omega) ?_
          iterate 1 refine hS _ _ _ _ ?_
          exact qv (hQ _ FrS.rf) (hV.symm.trans folk1_0)
        · refine sm_by1 (by omega) (by omega) ?_
          iterate 1 refine hS _ _ _ _ ?_
          exact qv (hQ _ FrS.rf) (hV.symm.trans folk1_1)
        · refine sm_by2 (by omega) (by omega) ?_
          iterate 1 refine hS _ _ _ _ ?_
          exact qv (hQ _ FrS.rf) (hV.symm.trans folk1_2)
        · refine sm_by3 (by omega) (by omega) ?_
          iterate 1 refine hS _ _ _ _ ?_
          exact qv (hQ _ FrS.rf) (hV.symm.trans folk1_3)
      · subst h22
        iterate 3 refine hS _ _ _ _ ?_
        refine sm_hoursGive (by omega) hj hI.nm (fun M1 f1 => ?_)
        iterate 2 refine hS _ _ _ _ ?_
        exact qv (hQ _ (FrS.ofm f1)) (hV.symm.trans folk1_4)
    · replace h14 := bI_f h14
      replace h14 := fun z => h14 ((in_bd1 (n := 4) (by omega)).mpr z)
      iterate 2 refine hS _ _ _ _ ?_
      refine qv (hQ _ FrS.rf) ?_
      rw [← hV]
      unfold folk1
      have z0 : ¬ w = 0 := fun e => h14 ⟨0, by omega, e⟩
      have z1 : ¬ w = 1 := fun e => h14 ⟨1, by omega, e⟩
      have z2 : ¬ w = 2 := fun e => h14 ⟨2, by omega, e⟩
      have z3 : ¬ w = 3 := fun e => h14 ⟨3, by omega, e⟩
      have z4 : ¬ w = 4 := fun e => h14 ⟨4, by omega, e⟩
      rw [if_neg z0, if_neg z1, if_neg z2, if_neg z3, if_neg z4]
theorem op_folk {b w : Int32} : OpOK 75 149 [.inl b, .inl w] := op_q (fun M => folkV (M 31 0 0) b w) (fun M Q d hd hI hQ => c_folk hd hI hQ) (fun M Q d hd hI hQ => m_folk hd hI hQ) (fun M M' h => by simp only [h.k31])
theorem c_land {M : Mem} {Q : PQ} {d : Nat} {w : Int32} (hd : 500 ≤ d) (hI : INV M) (hQ : ∀ M', FrS M M' → Q (some (.inl (landV (M 31 0 0) w))) M') : Td PR d 79 [.inr (0, 0, 0), .inl w] M Q := by
  have hL := hI.ll
  have hC := hI.cn
  have hb10 := hL.b10
  have hp9 := hL.p9
  have ht14 := hL.t14
  generalize hV : landV (M 31 0 0) w = W at hQ
  obtain ⟨e, rfl⟩ : ∃ e, d = e + 1 := ⟨d - 1, by omega⟩
  refine td_X9_land ?_
  intro S hS
  iterate 2 refine hS _ _ _ _ ?_
  refine And.intro (fun h1_0 => ?_) (fun h1_0 => ?_)
  · iterate 4 refine hS _ _ _ _ ?_
    refine qv (hQ _ FrS.rf) ?_
    rw [← hV]
    have g5 := hL.slept
    have g6 := hL.awake
    have g7 := hL.lost
    have g8 := hL.carried
    have g4 := hL.pc.trans hC.2.2.1.symm
    clear hV hQ
    simp_all [landV]
  refine And.intro (fun h1_1 => ?_) (fun h1_1 => ?_)
  · iterate 4 refine hS _ _ _ _ ?_
    refine qv (hQ _ FrS.rf) ?_
    rw [← hV]
    have g5 := hL.slept
    have g6 := hL.awake
    have g7 := hL.lost
    have g8 := hL.carried
    have g4 := hL.pc.trans hC.2.2.1.symm
    clear hV hQ
    simp_all [landV]
  refine And.intro (fun h1_2 => ?_) (fun h1_2 => ?_)
  · iterate 4 refine hS _ _ _ _ ?_
    refine qv (hQ _ FrS.rf) ?_
    rw [← hV]
    have g5 := hL.slept
    have g6 := hL.awake
    have g7 := hL.lost
    have g8 := hL.carried
    have g4 := hL.pc.trans hC.2.2.1.symm
    clear hV hQ
    simp_all [landV]
  refine And.intro (fun h1_3 => ?_) (fun h1_3 => ?_)
  · iterate 4 refine hS _ _ _ _ ?_
    refine qv (hQ _ FrS.rf) ?_
    rw [← hV]
    have g5 := hL.slept
    have g6 := hL.awake
    have g7 := hL.lost
    have g8 := hL.carried
    have g4 := hL.pc.trans hC.2.2.1.symm
    clear hV hQ
    simp_all [landV]
  refine And.intro (fun h1_4 => ?_) (fun h1_4 => ?_)
  · iterate 3 refine hS _ _ _ _ ?_
    refine sp_thoseAtHome (by omega) hL ?_
    refine hS _ _ _ _ ?_
    refine qv (hQ _ FrS.rf) ?_
    rw [← hV]
    have g5 := hL.slept
    have g6 := hL.awake
    have g7 := hL.lost
    have g8 := hL.carried
    have g4 := hL.pc.trans hC.2.2.1.symm
    clear hV hQ
    simp_all [landV]
  refine And.intro (fun h1_5 => ?_) (fun h1_5 => ?_)
  · iterate 3 refine hS _ _ _ _ ?_
    refine sp_thoseGone (by omega) hL ?_
    refine hS _ _ _ _ ?_
    refine qv (hQ _ FrS.rf) ?_
    rw [← hV]
    have g5 := hL.slept
    have g6 := hL.awake
    have g7 := hL.lost
    have g8 := hL.carried
    have g4 := hL.pc.trans hC.2.2.1.symm
    clear hV hQ
    simp_all [landV]
  refine And.intro (fun h1_6 => ?_) (fun h1_6 => ?_)
  · iterate 4 refine hS _ _ _ _ ?_
    refine qv (hQ _ FrS.rf) ?_
    rw [← hV]
    have g5 := hL.slept
    have g6 := hL.awake
    have g7 := hL.lost
    have g8 := hL.carried
    have g4 := hL.pc.trans hC.2.2.1.symm
    clear hV hQ
    simp_all [landV]
  iterate 2 refine hS _ _ _ _ ?_
  refine qv (hQ _ FrS.rf) ?_
  rw [← hV]
  have g5 := hL.slept
  have g6 := hL.awake
  have g7 := hL.lost
  have g8 := hL.carried
  have g4 := hL.pc.trans hC.2.2.1.symm
  clear hV hQ
  simp_all [landV]
theorem m_land {M : Mem} {Q : PQ} {d : Nat} {w : Int32} (hd : 500 ≤ d) (hI : INV M) (hQ : ∀ M', FrS M M' → Q (some (.inl (landV (M 31 0 0) w))) M') : Td PR d 162 [.inr (30, 0, 0), .inl w] M Q := by
  have hL := hI.ll
  have hC := hI.cn
  have hb10 := hL.b10
  have hp9 := hL.p9
  have ht14 := hL.t14
  generalize hV : landV (M 31 0 0) w = W at hQ
  obtain ⟨e, rfl⟩ : ∃ e, d = e + 1 := ⟨d - 1, by omega⟩
  refine td_X10_land ?_
  intro S hS
  iterate 2 refine hS _ _ _ _ ?_
  refine And.intro (fun h1_0 => ?_) (fun h1_0 => ?_)
  · subst h1_0
    iterate 6 refine hS _ _ _ _ ?_
    refine ⟨vp_l rfl, ?_⟩
    try rw [nI_clamp (by omega)]
    refine hS _ _ _ _ ?_
    exact qv (hQ _ FrS.rf) hV.symm
  refine And.intro (fun h1_1 => ?_) (fun h1_1 => ?_)
  · subst h1_1
    iterate 6 refine hS _ _ _ _ ?_
    refine ⟨vp_l rfl, ?_⟩
    try rw [nI_clamp (by omega)]
    refine hS _ _ _ _ ?_
    exact qv (hQ _ FrS.rf) hV.symm
  refine And.intro (fun h1_2 => ?_) (fun h1_2 => ?_)
  · subst h1_2
    iterate 6 refine hS _ _ _ _ ?_
    refine ⟨vp_l rfl, ?_⟩
    try rw [nI_clamp (by omega)]
    refine hS _ _ _ _ ?_
    exact qv (hQ _ FrS.rf) hV.symm
  refine And.intro (fun h1_3 => ?_) (fun h1_3 => ?_)
  · subst h1_3
    iterate 6 refine hS _ _ _ _ ?_
    refine ⟨vp_l rfl, ?_⟩
    try rw [nI_clamp (by omega)]
    refine hS _ _ _ _ ?_
    exact qv (hQ _ FrS.rf) hV.symm
  refine And.intro (fun h1_4 => ?_) (fun h1_4 => ?_)
  · iterate 2 refine hS _ _ _ _ ?_
    refine sm_atHome (by omega) hC ?_
    refine hS _ _ _ _ ?_
    subst h1_4
    exact qv (hQ _ FrS.rf) hV.symm
  refine And.intro (fun h1_5 => ?_) (fun h1_5 => ?_)
  · iterate 2 refine hS _ _ _ _ ?_
    refine sm_gone (by omega) hC hI.wf.2.1 ?_
    refine hS _ _ _ _ ?_
    subst h1_5
    exact qv (hQ _ FrS.rf) hV.symm
  refine And.intro (fun h1_6 => ?_) (fun h1_6 => ?_)
  · iterate 4 refine hS _ _ _ _ ?_
    refine ⟨vp_l rfl, ?_⟩
    try rw [show Int32.toNatClampNeg 4 = 4 from rfl]
    refine hS _ _ _ _ ?_
    subst h1_6
    exact qv (hQ _ FrS.rf) hV.symm
  iterate 2 refine hS _ _ _ _ ?_
  refine qv (hQ _ FrS.rf) ?_
  rw [← hV]
  clear hV hQ
  simp_all [landV]
theorem op_land {w : Int32} : OpOK 79 162 [.inl w] := op_q (fun M => landV (M 31 0 0) w) (fun M Q d hd hI hQ => c_land hd hI hQ) (fun M Q d hd hI hQ => m_land hd hI hQ) (fun M M' h => by simp only [h.k31])
theorem c_count {M : Mem} {Q : PQ} {d : Nat} {w : Int32} (hd : 500 ≤ d) (hI : INV M) (hQ : ∀ M', FrS M M' → Q (some (.inl (countV M w))) M') : Td PR d 110 [.inr (0, 0, 0), .inl w] M Q := by
  have hL := hI.ll
  have hC := hI.cn
  have hb10 := hL.b10
  have hp9 := hL.p9
  have ht14 := hL.t14
  generalize hV : countV M w = W at hQ
  obtain ⟨e, rfl⟩ : ∃ e, d = e + 1 := ⟨d - 1, by omega⟩
  refine td_X9_count ?_
  intro S hS
  iterate 2 refine hS _ _ _ _ ?_
  refine And.intro (fun h1_0 => ?_) (fun h1_0 => ?_)
  · iterate 4 refine hS _ _ _ _ ?_
    refine qv (hQ _ FrS.rf) ?_
    rw [← hV]
    have g0 := hL.2.1
    have g5 := hI.2.2.2.2.1.1
    have g6 := hI.2.2.2.2.2.1.1
    clear hV hQ
    unfold countV
    simp_all
  refine And.intro (fun h1_1 => ?_) (fun h1_1 => ?_)
  · iterate 4 refine hS _ _ _ _ ?_
    refine qv (hQ _ FrS.rf) ?_
    rw [← hV]
    have g0 := hL.2.1
    have g5 := hI.2.2.2.2.1.1
    have g6 := hI.2.2.2.2.2.1.1
    clear hV hQ
    unfold countV
    simp_all
  refine And.intro (fun h1_2 => ?_) (fun h1_2 => ?_)
  · iterate 4 refine hS _ _ _ _ ?_
    refine qv (hQ _ FrS.rf) ?_
    rw [← hV]
    have g0 := hL.2.1
    have g5 := hI.2.2.2.2.1.1
    have g6 := hI.2.2.2.2.2.1.1
    clear hV hQ
    unfold countV
    simp_all
  refine And.intro (fun h1_3 => ?_) (fun h1_3 => ?_)
  · iterate 4 refine hS _ _ _ _ ?_
    refine qv (hQ _ FrS.rf) ?_
    rw [← hV]
    have g0 := hL.2.1
    have g5 := hI.2.2.2.2.1.1
    have g6 := hI.2.2.2.2.2.1.1
    clear hV hQ
    unfold countV
    simp_all
  refine And.intro (fun h1_4 => ?_) (fun h1_4 => ?_)
  · iterate 4 refine hS _ _ _ _ ?_
    refine qv (hQ _ FrS.rf) ?_
    rw [← hV]
    have g0 := hL.2.1
    have g5 := hI.2.2.2.2.1.1
    have g6 := hI.2.2.2.2.2.1.1
    clear hV hQ
    unfold countV
    simp_all
  refine And.intro (fun h1_5 => ?_) (fun h1_5 => ?_)
  · iterate 3 refine hS _ _ _ _ ?_
    refine qv (hQ _ FrS.rf) ?_
    rw [← hV]
    have g0 := hL.2.1
    have g5 := hI.2.2.2.2.1.1
    have g6 := hI.2.2.2.2.2.1.1
    clear hV hQ
    unfold countV
    simp_all
  refine And.intro (fun h1_6 => ?_) (fun h1_6 => ?_)
  · iterate 4 refine hS _ _ _ _ ?_
    refine qv (hQ _ FrS.rf) ?_
    rw [← hV]
    have g0 := hL.2.1
    have g5 := hI.2.2.2.2.1.1
    have g6 := hI.2.2.2.2.2.1.1
    clear hV hQ
    unfold countV
    simp_all
  refine And.intro (fun h1_7 => ?_) (fun h1_7 => ?_)
  · iterate 4 refine hS _ _ _ _ ?_
    refine qv (hQ _ FrS.rf) ?_
    rw [← hV]
    have g0 := hL.2.1
    have g5 := hI.2.2.2.2.1.1
    have g6 := hI.2.2.2.2.2.1.1
    clear hV hQ
    unfold countV
    simp_all
  iterate 2 refine hS _ _ _ _ ?_
  refine qv (hQ _ FrS.rf) ?_
  rw [← hV]
  have g0 := hL.2.1
  have g5 := hI.2.2.2.2.1.1
  have g6 := hI.2.2.2.2.2.1.1
  clear hV hQ
  unfold countV
  simp_all
theorem m_count {M : Mem} {Q : PQ} {d : Nat} {w : Int32} (hd : 500 ≤ d) (hI : INV M) (hQ : ∀ M', FrS M M' → Q (some (.inl (countV M w))) M') : Td PR d 216 [.inr (30, 0, 0), .inl w] M Q := by
  have hL := hI.ll
  have hC := hI.cn
  have hb10 := hL.b10
  have hp9 := hL.p9
  have ht14 := hL.t14
  generalize hV : countV M w = W at hQ
  obtain ⟨e, rfl⟩ : ∃ e, d = e + 1 := ⟨d - 1, by omega⟩
  refine td_X10_count ?_
  intro S hS
  iterate 2 refine hS _ _ _ _ ?_
  refine And.intro (fun h1_0 => ?_) (fun h1_0 => ?_)
  · iterate 4 refine hS _ _ _ _ ?_
    refine ⟨vp_l rfl, ?_⟩
    try rw [show Int32.toNatClampNeg 1 = 1 from rfl]
    refine hS _ _ _ _ ?_
    refine qv (hQ _ FrS.rf) ?_
    rw [← hV]
    clear hV hQ
    unfold countV
    simp_all
  refine And.intro (fun h1_1 => ?_) (fun h1_1 => ?_)
  · iterate 4 refine hS _ _ _ _ ?_
    refine ⟨vp_l rfl, ?_⟩
    try rw [show Int32.toNatClampNeg 2 = 2 from rfl]
    refine hS _ _ _ _ ?_
    refine qv (hQ _ FrS.rf) ?_
    rw [← hV]
    clear hV hQ
    unfold countV
    simp_all
  refine And.intro (fun h1_2 => ?_) (fun h1_2 => ?_)
  · iterate 4 refine hS _ _ _ _ ?_
    refine ⟨vp_l rfl, ?_⟩
    try rw [show Int32.toNatClampNeg 3 = 3 from rfl]
    refine hS _ _ _ _ ?_
    refine qv (hQ _ FrS.rf) ?_
    rw [← hV]
    clear hV hQ
    unfold countV
    simp_all
  refine And.intro (fun h1_3 => ?_) (fun h1_3 => ?_)
  · iterate 4 refine hS _ _ _ _ ?_
    refine ⟨vp_l rfl, ?_⟩
    try rw [show Int32.toNatClampNeg 4 = 4 from rfl]
    refine hS _ _ _ _ ?_
    refine qv (hQ _ FrS.rf) ?_
    rw [← hV]
    clear hV hQ
    unfold countV
    simp_all
  refine And.intro (fun h1_4 => ?_) (fun h1_4 => ?_)
  · iterate 4 refine hS _ _ _ _ ?_
    refine ⟨vp_l rfl, ?_⟩
    try rw [show Int32.toNatClampNeg 9 = 9 from rfl]
    refine hS _ _ _ _ ?_
    refine qv (hQ _ FrS.rf) ?_
    rw [← hV]
    clear hV hQ
    unfold countV
    simp_all
  refine And.intro (fun h1_5 => ?_) (fun h1_5 => ?_)
  · iterate 3 refine hS _ _ _ _ ?_
    refine qv (hQ _ FrS.rf) ?_
    rw [← hV]
    clear hV hQ
    unfold countV
    simp_all
  refine And.intro (fun h1_6 => ?_) (fun h1_6 => ?_)
  · iterate 3 refine hS _ _ _ _ ?_
    refine qv (hQ _ FrS.rf) ?_
    rw [← hV]
    clear hV hQ
    unfold countV
    simp_all
  refine And.intro (fun h1_7 => ?_) (fun h1_7 => ?_)
  · iterate 4 refine hS _ _ _ _ ?_
    refine ⟨vp_l rfl, ?_⟩
    try rw [show Int32.toNatClampNeg 0 = 0 from rfl]
    refine hS _ _ _ _ ?_
    refine qv (hQ _ FrS.rf) ?_
    rw [← hV]
    clear hV hQ
    unfold countV
    simp_all
  iterate 2 refine hS _ _ _ _ ?_
  refine qv (hQ _ FrS.rf) ?_
  rw [← hV]
  clear hV hQ
  unfold countV
  simp_all
theorem op_count {w : Int32} : OpOK 110 216 [.inl w] := op_q (fun M => countV M w) (fun M Q d hd hI hQ => c_count hd hI hQ) (fun M Q d hd hI hQ => m_count hd hI hQ) (fun M M' h => by simp only [countV, h.k31, h.k30])
theorem c_textTold {M : Mem} {Q : PQ} {d : Nat} {t w : Int32} (hd : 500 ≤ d) (hI : INV M) (hQ : ∀ M', FrS M M' → Q (some (.inl (textToldV (M 31 0 0) t w))) M') : Td PR d 95 [.inr (0, 0, 0), .inl t, .inl w] M Q := by
  have hL := hI.ll
  have hC := hI.cn
  have hb10 := hL.b10
  have hp9 := hL.p9
  have ht14 := hL.t14
  generalize hV : textToldV (M 31 0 0) t w = W at hQ
  obtain ⟨e, rfl⟩ : ∃ e, d = e + 1 := ⟨d - 1, by omega⟩
  refine td_X9_textTold ?_
  intro S hS
  iterate 2 refine hS _ _ _ _ ?_
  refine And.intro (fun h1 => ?_) (fun h1 => ?_)
  · iterate 2 refine hS _ _ _ _ ?_
    rw [textToldV, iteC_f (fun z => isBd_lo h1 (by omega) z.1)] at hV
    exact qv (hQ _ FrS.rf) hV.symm
  · iterate 5 refine hS _ _ _ _ ?_
    refine And.intro (fun h12 => ?_) (fun h12 => ?_)
    · have h12' := h12
      rw [show M 1 0 0 12 = _ from hL.tc] at h12'
      iterate 2 refine hS _ _ _ _ ?_
      rw [textToldV, iteC_f (fun z => isBd_hi h12' (by omega) z.1)] at hV
      exact qv (hQ _ FrS.rf) hV.symm
    · have h12' := h12
      rw [show M 1 0 0 12 = _ from hL.tc] at h12'
      iterate 2 refine hS _ _ _ _ ?_
      refine And.intro (fun h16 => ?_) (fun h16 => ?_)
      · iterate 2 refine hS _ _ _ _ ?_
        rw [textToldV, iteC_f (fun z => isBd_lo h16 (by decide) z.2)] at hV
        exact qv (hQ _ FrS.rf) hV.symm
      · iterate 3 refine hS _ _ _ _ ?_
        refine And.intro (fun h21 => ?_) (fun h21 => ?_)
        · have ht := isBd_in h1 h12' (by omega)
          have hw : isBd 2 w := (in_bd1 (n := 1) (by omega)).mp ⟨h16, Int32.not_lt.mpr h21⟩
          obtain ⟨j, hj, rfl⟩ := ht
          rw [textToldV, iteC_t ⟨⟨j, hj, rfl⟩, hw⟩, nI_clamp (by omega)] at hV
          have q := hI.tx.2.2.1 j hj
          iterate 5 refine hS _ _ _ _ ?_
          refine ⟨(by first | assumption | exact vp_in_nI (by simp only [alen]; omega) (by decide)), ?_⟩
          try rw [nI_clamp (by omega)]
          iterate 3 refine hS _ _ _ _ ?_
          refine And.intro (fun h38 => ?_) (fun h38 => ?_)
          · iterate 3 refine hS _ _ _ _ ?_
            rw [if_neg h38] at hV
            exact qv (hQ _ FrS.rf) (hV.symm.trans q.2.2.1.symm)
          · iterate 4 refine hS _ _ _ _ ?_
            rw [if_pos h38] at hV
            exact qv (hQ _ FrS.rf) (hV.symm.trans q.1.symm)
        · iterate 2 refine hS _ _ _ _ ?_
          rw [textToldV, iteC_f (fun z => ((in_bd1 (n := 1) (by omega)).mpr z.2).2 (nle_lt h21))] at hV
          exact qv (hQ _ FrS.rf) hV.symm
theorem m_textTold {M : Mem} {Q : PQ} {d : Nat} {t w : Int32} (hd : 500 ≤ d) (hI : INV M) (hQ : ∀ M', FrS M M' → Q (some (.inl (textToldV (M 31 0 0) t w))) M') : Td PR d 196 [.inr (30, 0, 0), .inl t, .inl w] M Q := by
  have hL := hI.ll
  have hC := hI.cn
  have hb10 := hL.b10
  have hp9 := hL.p9
  have ht14 := hL.t14
  generalize hV : textToldV (M 31 0 0) t w = W at hQ
  obtain ⟨e, rfl⟩ : ∃ e, d = e + 1 := ⟨d - 1, by omega⟩
  refine td_X10_textTold ?_
  intro S hS
  iterate 6 refine hS _ _ _ _ ?_
  refine ⟨vp_l rfl, ?_⟩
  rw [show (M 31 0 0 (Int32.toNatClampNeg 9)) = _ from hC.2.2.2.2.1]
  iterate 3 refine hS _ _ _ _ ?_
  refine sm_in (by omega) ?_
  refine hS _ _ _ _ ?_
  refine And.intro (fun h14 => ?_) (fun h14 => ?_)
  · replace h14 := bI_f h14
    replace h14 := fun z => h14 ((in_bd (n := cT (M 31 0 0)) (by omega)).mpr z)
    iterate 2 refine hS _ _ _ _ ?_
    rw [textToldV, iteC_f (fun z => h14 z.1)] at hV
    exact qv (hQ _ FrS.rf) hV.symm
  · replace h14 := bI_t h14
    replace h14 := (in_bd (n := cT (M 31 0 0)) (by omega)).mp h14
    obtain ⟨j, hj, rfl⟩ := h14
    have ix : (86 : Int32) + 2 * nI j = nI (86 + 2 * j) := by
      show nI 86 + nI 2 * nI j = _
      rw [nI_mul, nI_add]
    have ix2 : nI (86 + 2 * j) + 1 = nI (87 + 2 * j) := by
      rw [← nI_succ]; exact congrArg nI (by omega)
    iterate 4 refine hS _ _ _ _ ?_
    refine sm_in (by omega) ?_
    refine hS _ _ _ _ ?_
    refine And.intro (fun h23 => ?_) (fun h23 => ?_)
    · replace h23 := bI_t h23
      replace h23 := (in_bd1 (n := 1) (by omega)).mp h23
      rw [textToldV, iteC_t ⟨⟨j, hj, rfl⟩, h23⟩, nI_clamp (by omega)] at hV
      iterate 2 refine hS _ _ _ _ ?_
      refine And.intro (fun h30 => ?_) (fun h30 => ?_)
      · iterate 10 refine hS _ _ _ _ ?_
        rw [ix, ix2]
        refine ⟨(by first | assumption | exact vp_in_nI (by simp only [alen]; omega) (by decide)), ?_⟩
        try rw [nI_clamp (by omega)]
        refine hS _ _ _ _ ?_
        rw [if_neg h30] at hV
        exact qv (hQ _ FrS.rf) hV.symm
      · iterate 8 refine hS _ _ _ _ ?_
        rw [ix]
        refine ⟨(by first | assumption | exact vp_in_nI (by simp only [alen]; omega) (by decide)), ?_⟩
        try rw [nI_clamp (by omega)]
        iterate 2 refine hS _ _ _ _ ?_
        refine ⟨by decide, ?_⟩
        iterate 2 refine hS _ _ _ _ ?_
        rw [if_pos h30] at hV
        exact qv (hQ _ FrS.rf) hV.symm
    · replace h23 := bI_f h23
      replace h23 := fun z => h23 ((in_bd1 (n := 1) (by omega)).mpr z)
      iterate 2 refine hS _ _ _ _ ?_
      rw [textToldV, iteC_f (fun z => h23 z.2)] at hV
      exact qv (hQ _ FrS.rf) hV.symm
theorem op_textTold {t w : Int32} : OpOK 95 196 [.inl t, .inl w] := op_q (fun M => textToldV (M 31 0 0) t w) (fun M Q d hd hI hQ => c_textTold hd hI hQ) (fun M Q d hd hI hQ => m_textTold hd hI hQ) (fun M M' h => by simp only [h.k31])
theorem c_why {M : Mem} {Q : PQ} {d : Nat} {k : Int32} (hd : 500 ≤ d) (hI : INV M) (hQ : ∀ M', FrS M M' → Q (some (.inl (whyV (M 31 0 0) k))) M') : Td PR d 96 [.inr (0, 0, 0), .inl k] M Q := by
  have hL := hI.ll
  have hC := hI.cn
  have hb10 := hL.b10
  have hp9 := hL.p9
  have ht14 := hL.t14
  generalize hV : whyV (M 31 0 0) k = W at hQ
  obtain ⟨e, rfl⟩ : ∃ e, d = e + 1 := ⟨d - 1, by omega⟩
  refine td_X9_why ?_
  intro S hS
  iterate 2 refine hS _ _ _ _ ?_
  refine And.intro (fun h1 => ?_) (fun h1 => ?_)
  · iterate 2 refine hS _ _ _ _ ?_
    rw [whyV, iteC_f (isBd_lo h1 (by decide))] at hV
    exact qv (hQ _ FrS.rf) hV.symm
  · iterate 3 refine hS _ _ _ _ ?_
    refine And.intro (fun h6 => ?_) (fun h6 => ?_)
    · have hk : isBd 3 k := (in_bd1 (n := 2) (by omega)).mp ⟨h1, Int32.not_lt.mpr h6⟩
      rw [whyV, iteC_t hk] at hV
      iterate 4 refine hS _ _ _ _ ?_
      refine sp_lawOf (by omega) hL hI.tx ?_
      iterate 3 refine hS _ _ _ _ ?_
      refine And.intro (fun h22 => ?_) (fun h22 => ?_)
      · iterate 2 refine hS _ _ _ _ ?_
        rw [if_pos h22] at hV
        exact qv (hQ _ FrS.rf) hV.symm
      · iterate 3 refine hS _ _ _ _ ?_
        rw [if_neg h22] at hV
        exact qv (hQ _ FrS.rf) hV.symm
    · iterate 2 refine hS _ _ _ _ ?_
      rw [whyV, iteC_f (fun z => ((in_bd1 (n := 2) (by omega)).mpr z).2 (nle_lt h6))] at hV
      exact qv (hQ _ FrS.rf) hV.symm
theorem m_why {M : Mem} {Q : PQ} {d : Nat} {k : Int32} (hd : 500 ≤ d) (hI : INV M) (hQ : ∀ M', FrS M M' → Q (some (.inl (whyV (M 31 0 0) k))) M') : Td PR d 198 [.inr (30, 0, 0), .inl k] M Q := by
  have hL := hI.ll
  have hC := hI.cn
  have hb10 := hL.b10
  have hp9 := hL.p9
  have ht14 := hL.t14
  generalize hV : whyV (M 31 0 0) k = W at hQ
  obtain ⟨e, rfl⟩ : ∃ e, d = e + 1 := ⟨d - 1, by omega⟩
  refine td_X10_why ?_
  intro S hS
  iterate 4 refine hS _ _ _ _ ?_
  refine sm_in (by omega) ?_
  refine hS _ _ _ _ ?_
  refine And.intro (fun h6 => ?_) (fun h6 => ?_)
  · replace h6 := bI_t h6
    replace h6 := (in_bd1 (n := 2) (by omega)).mp h6
    rw [whyV, iteC_t h6] at hV
    iterate 3 refine hS _ _ _ _ ?_
    refine sm_counts (by omega) hC ?_
    iterate 3 refine hS _ _ _ _ ?_
    refine And.intro (fun h19 => ?_) (fun h19 => ?_)
    · iterate 2 refine hS _ _ _ _ ?_
      rw [if_pos h19] at hV
      exact qv (hQ _ FrS.rf) hV.symm
    · iterate 3 refine hS _ _ _ _ ?_
      rw [if_neg h19] at hV
      exact qv (hQ _ FrS.rf) hV.symm
  · replace h6 := bI_f h6
    replace h6 := fun z => h6 ((in_bd1 (n := 2) (by omega)).mpr z)
    iterate 2 refine hS _ _ _ _ ?_
    rw [whyV, iteC_f h6] at hV
    exact qv (hQ _ FrS.rf) hV.symm
theorem op_why {k : Int32} : OpOK 96 198 [.inl k] := op_q (fun M => whyV (M 31 0 0) k) (fun M Q d hd hI hQ => c_why hd hI hQ) (fun M Q d hd hI hQ => m_why hd hI hQ) (fun M M' h => by simp only [h.k31])
theorem c_fee {M : Mem} {Q : PQ} {d : Nat} (hd : 500 ≤ d) (hI : INV M) (hQ : ∀ M', FrS M M' → Q (some (.inl (feeV (M 31 0 0)))) M') : Td PR d 90 [.inr (0, 0, 0)] M Q := by
  have hL := hI.ll
  have hC := hI.cn
  have hb10 := hL.b10
  have hp9 := hL.p9
  have ht14 := hL.t14
  generalize hV : feeV (M 31 0 0) = W at hQ
  obtain ⟨e, rfl⟩ : ∃ e, d = e + 1 := ⟨d - 1, by omega⟩
  refine td_X9_fee ?_
  intro S hS
  iterate 4 refine hS _ _ _ _ ?_
  refine sp_lawOf (by omega) hL hI.tx ?_
  iterate 3 refine hS _ _ _ _ ?_
  refine And.intro (fun h10 => ?_) (fun h10 => ?_)
  · rcases counts_c (f := M 31 0 0) (ky := 1) (cT (M 31 0 0)) with z | ⟨t, t1, t2, t3⟩
    · exact absurd h10 (by rw [z]; decide)
    rw [feeV, if_pos h10, t2, nI_clamp (by omega)] at hV
    rw [t2]
    iterate 11 refine hS _ _ _ _ ?_
    rw [show gfv M 1 0 0 6 = .inl (M 31 0 0 5) from congrArg Sum.inl hL.slept, show gfv M 1 0 0 7 = .inl (M 31 0 0 6) from congrArg Sum.inl hL.awake]
    refine sp_value (by omega) hI.tx t1 (fun M1 f1 => ?_)
    refine hS _ _ _ _ ?_
    exact qv (hQ _ (FrS.of8 f1)) hV.symm
  · iterate 5 refine hS _ _ _ _ ?_
    rw [feeV, if_neg h10] at hV
    exact qv (hQ _ FrS.rf) (hV.symm.trans hL.slept.symm)
theorem m_fee {M : Mem} {Q : PQ} {d : Nat} (hd : 500 ≤ d) (hI : INV M) (hQ : ∀ M', FrS M M' → Q (some (.inl (feeV (M 31 0 0)))) M') : Td PR d 180 [.inr (30, 0, 0)] M Q := by
  have hL := hI.ll
  have hC := hI.cn
  have hb10 := hL.b10
  have hp9 := hL.p9
  have ht14 := hL.t14
  generalize hV : feeV (M 31 0 0) = W at hQ
  obtain ⟨e, rfl⟩ : ∃ e, d = e + 1 := ⟨d - 1, by omega⟩
  refine td_X10_fee ?_
  intro S hS
  iterate 3 refine hS _ _ _ _ ?_
  refine sm_counts (by omega) hC ?_
  iterate 8 refine hS _ _ _ _ ?_
  refine ⟨vp_l rfl, ?_⟩
  try rw [show Int32.toNatClampNeg 5 = 5 from rfl]
  refine hS _ _ _ _ ?_
  refine ⟨vp_l rfl, ?_⟩
  try rw [show Int32.toNatClampNeg 0 = 0 from rfl]
  iterate 7 refine hS _ _ _ _ ?_
  refine ⟨vp_l rfl, ?_⟩
  try rw [show Int32.toNatClampNeg 6 = 6 from rfl]
  refine hS _ _ _ _ ?_
  refine ⟨vp_l rfl, ?_⟩
  try rw [show Int32.toNatClampNeg 1 = 1 from rfl]
  iterate 2 refine hS _ _ _ _ ?_
  refine And.intro (fun h32 => ?_) (fun h32 => ?_)
  · rcases counts_c (f := M 31 0 0) (ky := 1) (cT (M 31 0 0)) with z | ⟨t, t1, t2, t3⟩
    · exact absurd h32 (by rw [z]; decide)
    have hok := hI.nm.2.1 t t1
    obtain ⟨ky, k1, k2, k3⟩ := hok.use
    rw [feeV, if_pos h32, t2, nI_clamp (by omega), worth_z (z' := M 57 0 0 2) hok (by rw [t3]; decide)] at hV
    rw [t2]
    iterate 3 refine hS _ _ _ _ ?_
    refine sm_worksOut (M := mu (mu M 57 0 0 0 (M 31 0 0 5)) 57 0 0 1 (M 31 0 0 6)) (by omega) (by omega) k1 k2 k3 (fun M1 f1 => ?_)
    refine hS _ _ _ _ ?_
    exact qv (hQ _ (FrS.ofm (fun k a b => (f1 k a).trans ((mz_k b).trans (mz_k b))))) hV.symm
  · iterate 4 refine hS _ _ _ _ ?_
    refine ⟨vp_l rfl, ?_⟩
    try rw [show Int32.toNatClampNeg 5 = 5 from rfl]
    iterate 2 refine hS _ _ _ _ ?_
    rw [feeV, if_neg h32] at hV
    exact qv (hQ _ (FrS.ofm (fun k a b => (mz_k b).trans (mz_k b)))) hV.symm
theorem op_fee : OpOK 90 180 [] := op_q (fun M => feeV (M 31 0 0)) (fun M Q d hd hI hQ => c_fee hd hI hQ) (fun M Q d hd hI hQ => m_fee hd hI hQ) (fun M M' h => by simp only [h.k31])
theorem c_fine {M : Mem} {Q : PQ} {d : Nat} {b : Int32} (hd : 500 ≤ d) (hI : INV M) (hQ : ∀ M', FrS M M' → Q (some (.inl (fineV (M 31 0 0) b))) M') : Td PR d 91 [.inr (0, 0, 0), .inl b] M Q := by
  have hL := hI.ll
  have hC := hI.cn
  have hb10 := hL.b10
  have hp9 := hL.p9
  have ht14 := hL.t14
  generalize hV : fineV (M 31 0 0) b = W at hQ
  obtain ⟨e, rfl⟩ : ∃ e, d = e + 1 := ⟨d - 1, by omega⟩
  refine td_X9_fine ?_
  intro S hS
  iterate 3 refine hS _ _ _ _ ?_
  refine sp_isBed (by omega) hL ?_
  refine hS _ _ _ _ ?_
  refine And.intro (fun h5 => ?_) (fun h5 => ?_)
  · replace h5 := bI_t h5
    obtain ⟨j, hj, rfl⟩ := h5
    rw [fineV, iteC_t ⟨j, hj, rfl⟩, nI_clamp (by omega)] at hV
    have e1 := hL.at hj
    have e2 := hL.to hj
    iterate 5 refine hS _ _ _ _ ?_
    refine ⟨(by first | assumption | exact vp_in_nI (by simp only [alen]; omega) (by decide)), ?_⟩
    try rw [nI_clamp (by omega)]
    iterate 5 refine hS _ _ _ _ ?_
    refine sp_lawOf (by omega) hL hI.tx ?_
    iterate 3 refine hS _ _ _ _ ?_
    refine And.intro (fun h31 => ?_) (fun h31 => ?_)
    · rcases counts_c (f := M 31 0 0) (ky := 2) (cT (M 31 0 0)) with z | ⟨t, t1, t2, t3⟩
      · exact absurd h31 (by rw [z]; decide)
      rw [if_pos h31, t2, nI_clamp (by omega)] at hV
      rw [t2]
      iterate 9 refine hS _ _ _ _ ?_
      rw [show gfv M 3 0 j 1 = .inl (M 31 0 0 (11 + 4 * j)) from congrArg Sum.inl e1, show gfv M 3 0 j 2 = .inl (M 31 0 0 (12 + 4 * j)) from congrArg Sum.inl e2]
      refine sp_value (by omega) hI.tx t1 (fun M1 f1 => ?_)
      refine hS _ _ _ _ ?_
      exact qv (hQ _ (FrS.of8 f1)) hV.symm
    · iterate 4 refine hS _ _ _ _ ?_
      rw [if_neg h31] at hV
      exact qv (hQ _ FrS.rf) (hV.symm.trans e2.symm)
  · replace h5 := bI_f h5
    iterate 2 refine hS _ _ _ _ ?_
    rw [fineV, iteC_f h5] at hV
    exact qv (hQ _ FrS.rf) hV.symm
theorem m_fine {M : Mem} {Q : PQ} {d : Nat} {b : Int32} (hd : 500 ≤ d) (hI : INV M) (hQ : ∀ M', FrS M M' → Q (some (.inl (fineV (M 31 0 0) b))) M') : Td PR d 181 [.inr (30, 0, 0), .inl b] M Q := by
  have hL := hI.ll
  have hC := hI.cn
  have hb10 := hL.b10
  have hp9 := hL.p9
  have ht14 := hL.t14
  generalize hV : fineV (M 31 0 0) b = W at hQ
  obtain ⟨e, rfl⟩ : ∃ e, d = e + 1 := ⟨d - 1, by omega⟩
  refine td_X10_fine ?_
  intro S hS
  iterate 3 refine hS _ _ _ _ ?_
  refine sm_isBed (by omega) hC ?_
  refine hS _ _ _ _ ?_
  refine And.intro (fun h5 => ?_) (fun h5 => ?_)
  · replace h5 := bI_t h5
    obtain ⟨j, hj, rfl⟩ := h5
    rw [fineV, iteC_t ⟨j, hj, rfl⟩, nI_clamp (by omega)] at hV
    iterate 3 refine hS _ _ _ _ ?_
    refine sm_counts (by omega) hC ?_
    iterate 8 refine hS _ _ _ _ ?_
    refine sm_of1 (by omega) (by omega) ?_
    refine hS _ _ _ _ ?_
    refine ⟨vp_l rfl, ?_⟩
    try rw [show Int32.toNatClampNeg 0 = 0 from rfl]
    iterate 7 refine hS _ _ _ _ ?_
    refine sm_of2 (by omega) (by omega) ?_
    refine hS _ _ _ _ ?_
    refine ⟨vp_l rfl, ?_⟩
    try rw [show Int32.toNatClampNeg 1 = 1 from rfl]
    iterate 2 refine hS _ _ _ _ ?_
    refine And.intro (fun h42 => ?_) (fun h42 => ?_)
    · rcases counts_c (f := M 31 0 0) (ky := 2) (cT (M 31 0 0)) with z | ⟨t, t1, t2, t3⟩
      · exact absurd h42 (by rw [z]; decide)
      have hok := hI.nm.2.1 t t1
      obtain ⟨ky, k1, k2, k3⟩ := hok.use
      rw [if_pos h42, t2, nI_clamp (by omega), worth_z (z' := M 57 0 0 2) hok (by rw [t3]; decide)] at hV
      rw [t2]
      iterate 3 refine hS _ _ _ _ ?_
      refine sm_worksOut (M := mu (mu M 57 0 0 0 (M 31 0 0 (11 + 4 * j))) 57 0 0 1 (M 31 0 0 (12 + 4 * j))) (by omega) (by omega) k1 k2 k3 (fun M1 f1 => ?_)
      refine hS _ _ _ _ ?_
      exact qv (hQ _ (FrS.ofm (fun k a b => (f1 k a).trans ((mz_k b).trans (mz_k b))))) hV.symm
    · iterate 4 refine hS _ _ _ _ ?_
      refine sm_of2 (by omega) (by omega) ?_
      iterate 2 refine hS _ _ _ _ ?_
      rw [if_neg h42] at hV
      exact qv (hQ _ (FrS.ofm (fun k a b => (mz_k b).trans (mz_k b)))) hV.symm
  · replace h5 := bI_f h5
    iterate 2 refine hS _ _ _ _ ?_
    rw [fineV, iteC_f h5] at hV
    exact qv (hQ _ FrS.rf) hV.symm
theorem op_fine {b : Int32} : OpOK 91 181 [.inl b] := op_q (fun M => fineV (M 31 0 0) b) (fun M Q d hd hI hQ => c_fine hd hI hQ) (fun M Q d hd hI hQ => m_fine hd hI hQ) (fun M M' h => by simp only [h.k31])
theorem c_who {M : Mem} {Q : PQ} {d : Nat} {t : Int32} (hd : 500 ≤ d) (hI : INV M) (hQ : ∀ M', FrS M M' → Q (some (.inl (whoV (M 31 0 0) t))) M') : Td PR d 77 [.inr (0, 0, 0), .inl t] M Q := by
  have hL := hI.ll
  have hC := hI.cn
  have hb10 := hL.b10
  have hp9 := hL.p9
  have ht14 := hL.t14
  generalize hV : whoV (M 31 0 0) t = W at hQ
  obtain ⟨e, rfl⟩ : ∃ e, d = e + 1 := ⟨d - 1, by omega⟩
  refine td_X9_who ?_
  intro S hS
  iterate 2 refine hS _ _ _ _ ?_
  refine sp_isTown (by omega) ?_
  refine hS _ _ _ _ ?_
  refine And.intro (fun h4 => ?_) (fun h4 => ?_)
  · replace h4 := bI_f h4
    iterate 2 refine hS _ _ _ _ ?_
    rw [whoV, iteC_f h4] at hV
    exact qv (hQ _ FrS.rf) hV.symm
  · replace h4 := bI_t h4
    rw [whoV, iteC_t h4] at hV
    iterate 4 refine hS _ _ _ _ ?_
    refine sp_thoseIn (by omega) hL ?_
    iterate 2 refine hS _ _ _ _ ?_
    exact qv (hQ _ FrS.rf) hV.symm
theorem m_who {M : Mem} {Q : PQ} {d : Nat} {t : Int32} (hd : 500 ≤ d) (hI : INV M) (hQ : ∀ M', FrS M M' → Q (some (.inl (whoV (M 31 0 0) t))) M') : Td PR d 151 [.inr (30, 0, 0), .inl t] M Q := by
  have hL := hI.ll
  have hC := hI.cn
  have hb10 := hL.b10
  have hp9 := hL.p9
  have ht14 := hL.t14
  generalize hV : whoV (M 31 0 0) t = W at hQ
  have lp : Q (some (.inl (nI (setF (fun p => M 31 0 0 (50 + 4 * p) = t) (cP (M 31 0 0)))))) M → ∀ {e : Nat} (S : CF), Clo (Td PR e) (some .int) T_X10_who Q S → 2 ≤ e → S 14 [some (.inr (30, 0, 0)), some (.inl t), some (.inl 0), some (.inl 0)] [] M := by
    intro hq e S hS he
    refine lp_up (T := fun i => S 14 [some (.inr (30, 0, 0)), some (.inl t), some (.inl (nI (setF (fun p => M 31 0 0 (50 + 4 * p) = t) i))), some (.inl (nI i))] [] M) (N := cP (M 31 0 0)) ?_ ?_ 0 (Nat.zero_le _)
    · iterate 5 refine hS _ _ _ _ ?_
      refine ⟨vp_l rfl, ?_⟩
      try rw [show Int32.toNatClampNeg 4 = 4 from rfl]
      refine hS _ _ _ _ ?_
      refine And.intro (fun h21 => ?_) (fun h21 => ?_)
      · iterate 2 refine hS _ _ _ _ ?_
        exact hq
      · exact (lp_x hC.2.2.1 h21).elim
    · intro i hi ih
      rw [nI_succ] at ih
      iterate 5 refine hS _ _ _ _ ?_
      refine ⟨vp_l rfl, ?_⟩
      try rw [show Int32.toNatClampNeg 4 = 4 from rfl]
      refine hS _ _ _ _ ?_
      refine And.intro (fun h21 => ?_) (fun h21 => ?_)
      · exact (lp_s hC.2.2.1 hi (by omega) h21).elim
      · iterate 5 refine hS _ _ _ _ ?_
        refine sm_by0 (by omega) (by omega) ?_
        iterate 2 refine hS _ _ _ _ ?_
        refine And.intro (fun h32 => ?_) (fun h32 => ?_)
        · iterate 5 refine hS _ _ _ _ ?_
          rw [setF_f (P := fun p => M 31 0 0 (50 + 4 * p) = t) h32] at ih
          refine slv ih ?_
          rw [show nI (setF (fun p => M 31 0 0 (50 + 4 * p) = t) i) ||| 0 = nI (setF (fun p => M 31 0 0 (50 + 4 * p) = t) i) from Int32.or_zero]
          rfl
        · iterate 8 refine hS _ _ _ _ ?_
          rw [setF_t (P := fun p => M 31 0 0 (50 + 4 * p) = t) h32, ← (orb _ (setF_512 _ (by omega)) i (by omega)).1] at ih
          exact ih
  obtain ⟨e, rfl⟩ : ∃ e, d = e + 1 := ⟨d - 1, by omega⟩
  refine td_X10_who ?_
  intro S hS
  iterate 2 refine hS _ _ _ _ ?_
  refine sm_isTown (by omega) ?_
  refine hS _ _ _ _ ?_
  refine And.intro (fun h4 => ?_) (fun h4 => ?_)
  · replace h4 := bI_t h4
    rw [whoV, iteC_t h4] at hV
    iterate 4 refine hS _ _ _ _ ?_
    exact lp (by rw [hV]; exact hQ _ FrS.rf) _ hS (by omega)
  · replace h4 := bI_f h4
    iterate 2 refine hS _ _ _ _ ?_
    rw [whoV, iteC_f h4] at hV
    exact qv (hQ _ FrS.rf) hV.symm
theorem op_who {t : Int32} : OpOK 77 151 [.inl t] := op_q (fun M => whoV (M 31 0 0) t) (fun M Q d hd hI hQ => c_who hd hI hQ) (fun M Q d hd hI hQ => m_who hd hI hQ) (fun M M' h => by simp only [h.k31])
