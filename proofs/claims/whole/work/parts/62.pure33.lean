-- 62.pure33: keep, back
def LE (f g : FA) : Prop := ∀ i, i < 1458 → g i = f i
section W33a
variable {f g : FA}
theorem LE.cb (h : LE f g) : cB g = cB f := by unfold cB; rw [h 1 (by omega)]
theorem LE.cp (h : LE f g) : cP g = cP f := by unfold cP; rw [h 4 (by omega)]
theorem LE.ct (h : LE f g) : cT g = cT f := by unfold cT; rw [h 9 (by omega)]
theorem LE.cn (h : LE f g) (c : CN f) : CN g := by
  unfold CN
  rw [h.cb, h.cp, h.ct, h 1 (by omega), h 4 (by omega), h 9 (by omega)]
  exact c
theorem LL.le {M : Mem} {l : Nat} (hL : LL M l f) (h : LE f g) : LL M l g := by
  have b10 := hL.b10
  have p9 := hL.p9
  refine ⟨h.cn hL.1, ?_, fun b hb => ?_, fun p hp => ?_⟩
  · simp only [h 0 (by omega), h 1 (by omega), h 2 (by omega), h 3 (by omega), h 4 (by omega), h 5 (by omega), h 6 (by omega), h 7 (by omega), h 8 (by omega), h 9 (by omega)]
    exact hL.2.1
  · rw [h.cb] at hb
    rw [h _ (by omega), h _ (by omega), h _ (by omega), h _ (by omega)]
    exact hL.2.2.1 b hb
  · rw [h.cp] at hp
    rw [h _ (by omega), h _ (by omega), h _ (by omega), h _ (by omega)]
    exact hL.2.2.2 p hp
theorem depS_pw {c c' : FA} : ∀ n, (∀ k, k < n → c' k = c k) → depS c' n = depS c n := by
  intro n
  induction n with
  | zero => intro _; rfl
  | succ n ih =>
    intro h
    unfold depS
    rw [ih (fun k hk => h k (by omega)), h n (by omega)]
theorem okS_pw {c c' : FA} {nm n : Nat} (h : ∀ k, k < n → c' k = c k) (o : okS c nm n) : okS c' nm n := by
  obtain ⟨o1, o2, o3, o4⟩ := o
  refine ⟨o1, o2, by rw [depS_pw n h]; exact o3, fun k hk => ?_⟩
  rw [h k hk, depS_pw k (fun j hj => h j (by omega))]
  exact o4 k hk
theorem LE.len (h : LE f g) {t : Nat} (ht : t < 14) : lenF g t = lenF f t := by unfold lenF; rw [h _ (by omega)]
theorem LE.tok (h : LE f g) {t : Nat} (ht : t < 14) (k : txOk f t) : txOk g t := by
  obtain ⟨ky, k1, k2, k3⟩ := k
  refine ⟨ky, k1, by rw [h.len ht, h _ (by omega)]; exact k2, ?_⟩
  rw [h.len ht]
  have hl := k3.2.1
  exact okS_pw (fun k hk => h _ (by omega)) k3
theorem TX.le {M : Mem} (hT : TX M f) (h : LE f g) : TX M g := by
  obtain ⟨a, b, c, d⟩ := hT
  refine ⟨by rw [h.ct]; exact a, by rw [h.ct, h _ (by omega)]; exact b, fun t ht => ?_, fun t ht => ?_⟩
  · rw [h.ct] at ht
    have hl := (d t ht).len.2
    rw [h.len (by omega), h _ (by omega), h _ (by omega)]
    obtain ⟨q1, q2, q3, q4⟩ := c t ht
    refine ⟨q1, q2, q3, fun k hk => ?_⟩
    rw [h _ (by omega)]
    exact q4 k hk
  · rw [h.ct] at ht
    exact h.tok (by omega) (d t ht)
theorem WF.le {K : Nat} (hW : WF K f) (h : LE f g) : WF K g := by
  have b10 := hW.1.1.2.1
  have p9 := hW.1.1.2.2.2.1
  have t14 := hW.1.1.2.2.2.2.2
  refine ⟨⟨h.cn hW.1.1, fun t ht => ?_, by rw [h _ (by omega)]; exact hW.1.2.2⟩, fun p hp => ?_, fun b hb => ?_, fun p hp => ?_⟩
  · rw [h.ct] at ht
    exact h.tok (by omega) (hW.1.2.1 t ht)
  · rw [h.cp] at hp
    rw [h _ (by omega), h _ (by omega)]
    exact hW.2.1 p hp
  · rw [h.cb] at hb
    rw [h _ (by omega), h _ (by omega), h _ (by omega)]
    exact hW.2.2.1 b hb
  · rw [h.cp] at hp
    rw [h _ (by omega)]
    exact hW.2.2.2 p hp
end W33a
section W33
variable {d : Nat} {M : Mem} {Q : PQ}
theorem sm_copy31_32 (hd : 1 ≤ d) (hQ : ∀ M1, (∀ k, k ≠ 32 → M1 k = M k) → (∀ i, M1 32 0 0 i = if i < 1458 then M 31 0 0 i else M 32 0 0 i) → Q none M1) : Td PR d 122 [.inr (31, 0, 0), .inr (32, 0, 0)] M Q := by
  obtain ⟨e, rfl⟩ : ∃ e, d = e + 1 := ⟨d - 1, by omega⟩
  refine td_X10_copyAll ?_
  intro S hS
  iterate 2 refine hS _ _ _ _ ?_
  refine lp_up (T := fun i => ∀ M1, (∀ k, k ≠ 32 → M1 k = M k) → (∀ j, M1 32 0 0 j = if j < i then M 31 0 0 j else M 32 0 0 j) → S 2 [some (.inr (31, 0, 0)), some (.inr (32, 0, 0)), some (.inl (nI i))] [] M1) (N := 1458) ?_ ?_ 0 (Nat.zero_le _) M (fun _ _ => rfl) (fun j => by rw [if_neg (by omega)])
  · intro M1 a1 a2
    iterate 3 refine hS _ _ _ _ ?_
    refine And.intro (fun h6 => ?_) (fun h6 => ?_)
    · refine hS _ _ _ _ ?_
      exact hQ M1 a1 a2
    · exact (lp_x (n := 1458) rfl h6).elim
  · intro i hi ih M1 a1 a2
    rw [nI_succ i] at ih
    have e := a1 31 (by decide)
    iterate 3 refine hS _ _ _ _ ?_
    refine And.intro (fun h6 => ?_) (fun h6 => ?_)
    · exact (lp_s (n := 1458) rfl hi (by omega) h6).elim
    · iterate 5 refine hS _ _ _ _ ?_
      refine ⟨(by first | assumption | exact vp_in_nI (by simp only [alen]; omega) (by decide)), ?_⟩
      try rw [nI_clamp (by omega)]
      refine hS _ _ _ _ ?_
      refine ⟨(by first | assumption | exact vp_in_nI (by simp only [alen]; omega) (by decide)), ?_⟩
      try rw [nI_clamp (by omega)]
      iterate 2 refine hS _ _ _ _ ?_
      refine ih (mu M1 32 0 0 i (M1 31 0 0 i)) (fun k hk => (mz_k hk).trans (a1 k hk)) (fun j => ?_)
      by_cases z : j = i
      · subst z; rw [mz_at, if_pos (by omega), e]
      · rw [upd_mu, upd_ne z, a2]
        by_cases y : j < i
        · rw [if_pos y, if_pos (by omega)]
        · rw [if_neg y, if_neg (by omega)]
theorem sm_copy31_33 (hd : 1 ≤ d) (hQ : ∀ M1, (∀ k, k ≠ 33 → M1 k = M k) → (∀ i, M1 33 0 0 i = if i < 1458 then M 31 0 0 i else M 33 0 0 i) → Q none M1) : Td PR d 122 [.inr (31, 0, 0), .inr (33, 0, 0)] M Q := by
  obtain ⟨e, rfl⟩ : ∃ e, d = e + 1 := ⟨d - 1, by omega⟩
  refine td_X10_copyAll ?_
  intro S hS
  iterate 2 refine hS _ _ _ _ ?_
  refine lp_up (T := fun i => ∀ M1, (∀ k, k ≠ 33 → M1 k = M k) → (∀ j, M1 33 0 0 j = if j < i then M 31 0 0 j else M 33 0 0 j) → S 2 [some (.inr (31, 0, 0)), some (.inr (33, 0, 0)), some (.inl (nI i))] [] M1) (N := 1458) ?_ ?_ 0 (Nat.zero_le _) M (fun _ _ => rfl) (fun j => by rw [if_neg (by omega)])
  · intro M1 a1 a2
    iterate 3 refine hS _ _ _ _ ?_
    refine And.intro (fun h6 => ?_) (fun h6 => ?_)
    · refine hS _ _ _ _ ?_
      exact hQ M1 a1 a2
    · exact (lp_x (n := 1458) rfl h6).elim
  · intro i hi ih M1 a1 a2
    rw [nI_succ i] at ih
    have e := a1 31 (by decide)
    iterate 3 refine hS _ _ _ _ ?_
    refine And.intro (fun h6 => ?_) (fun h6 => ?_)
    · exact (lp_s (n := 1458) rfl hi (by omega) h6).elim
    · iterate 5 refine hS _ _ _ _ ?_
      refine ⟨(by first | assumption | exact vp_in_nI (by simp only [alen]; omega) (by decide)), ?_⟩
      try rw [nI_clamp (by omega)]
      refine hS _ _ _ _ ?_
      refine ⟨(by first | assumption | exact vp_in_nI (by simp only [alen]; omega) (by decide)), ?_⟩
      try rw [nI_clamp (by omega)]
      iterate 2 refine hS _ _ _ _ ?_
      refine ih (mu M1 33 0 0 i (M1 31 0 0 i)) (fun k hk => (mz_k hk).trans (a1 k hk)) (fun j => ?_)
      by_cases z : j = i
      · subst z; rw [mz_at, if_pos (by omega), e]
      · rw [upd_mu, upd_ne z, a2]
        by_cases y : j < i
        · rw [if_pos y, if_pos (by omega)]
        · rw [if_neg y, if_neg (by omega)]
theorem sm_copy32_31 (hd : 1 ≤ d) (hQ : ∀ M1, (∀ k, k ≠ 31 → M1 k = M k) → (∀ i, M1 31 0 0 i = if i < 1458 then M 32 0 0 i else M 31 0 0 i) → Q none M1) : Td PR d 122 [.inr (32, 0, 0), .inr (31, 0, 0)] M Q := by
  obtain ⟨e, rfl⟩ : ∃ e, d = e + 1 := ⟨d - 1, by omega⟩
  refine td_X10_copyAll ?_
  intro S hS
  iterate 2 refine hS _ _ _ _ ?_
  refine lp_up (T := fun i => ∀ M1, (∀ k, k ≠ 31 → M1 k = M k) → (∀ j, M1 31 0 0 j = if j < i then M 32 0 0 j else M 31 0 0 j) → S 2 [some (.inr (32, 0, 0)), some (.inr (31, 0, 0)), some (.inl (nI i))] [] M1) (N := 1458) ?_ ?_ 0 (Nat.zero_le _) M (fun _ _ => rfl) (fun j => by rw [if_neg (by omega)])
  · intro M1 a1 a2
    iterate 3 refine hS _ _ _ _ ?_
    refine And.intro (fun h6 => ?_) (fun h6 => ?_)
    · refine hS _ _ _ _ ?_
      exact hQ M1 a1 a2
    · exact (lp_x (n := 1458) rfl h6).elim
  · intro i hi ih M1 a1 a2
    rw [nI_succ i] at ih
    have e := a1 32 (by decide)
    iterate 3 refine hS _ _ _ _ ?_
    refine And.intro (fun h6 => ?_) (fun h6 => ?_)
    · exact (lp_s (n := 1458) rfl hi (by omega) h6).elim
    · iterate 5 refine hS _ _ _ _ ?_
      refine ⟨(by first | assumption | exact vp_in_nI (by simp only [alen]; omega) (by decide)), ?_⟩
      try rw [nI_clamp (by omega)]
      refine hS _ _ _ _ ?_
      refine ⟨(by first | assumption | exact vp_in_nI (by simp only [alen]; omega) (by decide)), ?_⟩
      try rw [nI_clamp (by omega)]
      iterate 2 refine hS _ _ _ _ ?_
      refine ih (mu M1 31 0 0 i (M1 32 0 0 i)) (fun k hk => (mz_k hk).trans (a1 k hk)) (fun j => ?_)
      by_cases z : j = i
      · subst z; rw [mz_at, if_pos (by omega), e]
      · rw [upd_mu, upd_ne z, a2]
        by_cases y : j < i
        · rw [if_pos y, if_pos (by omega)]
        · rw [if_neg y, if_neg (by omega)]
theorem sm_copy33_31 (hd : 1 ≤ d) (hQ : ∀ M1, (∀ k, k ≠ 31 → M1 k = M k) → (∀ i, M1 31 0 0 i = if i < 1458 then M 33 0 0 i else M 31 0 0 i) → Q none M1) : Td PR d 122 [.inr (33, 0, 0), .inr (31, 0, 0)] M Q := by
  obtain ⟨e, rfl⟩ : ∃ e, d = e + 1 := ⟨d - 1, by omega⟩
  refine td_X10_copyAll ?_
  intro S hS
  iterate 2 refine hS _ _ _ _ ?_
  refine lp_up (T := fun i => ∀ M1, (∀ k, k ≠ 31 → M1 k = M k) → (∀ j, M1 31 0 0 j = if j < i then M 33 0 0 j else M 31 0 0 j) → S 2 [some (.inr (33, 0, 0)), some (.inr (31, 0, 0)), some (.inl (nI i))] [] M1) (N := 1458) ?_ ?_ 0 (Nat.zero_le _) M (fun _ _ => rfl) (fun j => by rw [if_neg (by omega)])
  · intro M1 a1 a2
    iterate 3 refine hS _ _ _ _ ?_
    refine And.intro (fun h6 => ?_) (fun h6 => ?_)
    · refine hS _ _ _ _ ?_
      exact hQ M1 a1 a2
    · exact (lp_x (n := 1458) rfl h6).elim
  · intro i hi ih M1 a1 a2
    rw [nI_succ i] at ih
    have e := a1 33 (by decide)
    iterate 3 refine hS _ _ _ _ ?_
    refine And.intro (fun h6 => ?_) (fun h6 => ?_)
    · exact (lp_s (n := 1458) rfl hi (by omega) h6).elim
    · iterate 5 refine hS _ _ _ _ ?_
      refine ⟨(by first | assumption | exact vp_in_nI (by simp only [alen]; omega) (by decide)), ?_⟩
      try rw [nI_clamp (by omega)]
      refine hS _ _ _ _ ?_
      refine ⟨(by first | assumption | exact vp_in_nI (by simp only [alen]; omega) (by decide)), ?_⟩
      try rw [nI_clamp (by omega)]
      iterate 2 refine hS _ _ _ _ ?_
      refine ih (mu M1 31 0 0 i (M1 33 0 0 i)) (fun k hk => (mz_k hk).trans (a1 k hk)) (fun j => ?_)
      by_cases z : j = i
      · subst z; rw [mz_at, if_pos (by omega), e]
      · rw [upd_mu, upd_ne z, a2]
        by_cases y : j < i
        · rw [if_pos y, if_pos (by omega)]
        · rw [if_neg y, if_neg (by omega)]
theorem c_keep (hd : 500 ≤ d) (hI : INV M) (hQ : ∀ M1, (∀ k i, k ≠ 0 → ¬ ((k = 1 ∨ k = 3 ∨ k = 5) ∧ i = 2) → M1 k i = M k i) → (∀ s, s ≠ 5 → M1 0 0 0 s = M 0 0 0 s) → M1 0 0 0 5 = 1 → LL M1 2 (M 31 0 0) → Q (some (.inl (nI (cB (M 31 0 0))))) M1) : Td PR d 108 [.inr (0, 0, 0)] M Q := by
  obtain ⟨e, rfl⟩ : ∃ e, d = e + 1 := ⟨d - 1, by omega⟩
  refine td_X9_keep ?_
  intro S hS
  iterate 5 refine hS _ _ _ _ ?_
  refine sp_landAs (by omega) (by decide) hI.ll (fun M1 f1 l1 => ?_)
  iterate 3 refine hS _ _ _ _ ?_
  refine ⟨by decide, ?_⟩
  iterate 4 refine hS _ _ _ _ ?_
  refine qv (hQ _ (fun k i a b => ?_) (fun s hs => ?_) mz_at (l1.fr rfl rfl rfl)) l1.bc.symm
  · rw [mz_k a]; exact f1 k i b
  · rw [mz_sl hs, f1 0 0 (by omega)]
theorem m_keep (hd : 500 ≤ d) (hC : CN (M 31 0 0)) (hQ : ∀ M1, (∀ k, k ≠ 30 → k ≠ 32 → M1 k = M k) → (∀ s, s ≠ 3 → M1 30 0 0 s = M 30 0 0 s) → M1 30 0 0 3 = 1 → LE (M 31 0 0) (M1 32 0 0) → Q (some (.inl (nI (cB (M 31 0 0))))) M1) : Td PR d 214 [.inr (30, 0, 0)] M Q := by
  obtain ⟨e, rfl⟩ : ∃ e, d = e + 1 := ⟨d - 1, by omega⟩
  refine td_X10_keep ?_
  intro S hS
  iterate 5 refine hS _ _ _ _ ?_
  refine sm_copy31_32 (by omega) (fun M1 f1 e1 => ?_)
  have e31 : M1 31 = M 31 := f1 31 (by decide)
  have e30 : M1 30 = M 30 := f1 30 (by decide)
  iterate 3 refine hS _ _ _ _ ?_
  refine ⟨by decide, ?_⟩
  iterate 4 refine hS _ _ _ _ ?_
  refine ⟨vp_l rfl, ?_⟩
  try rw [show Int32.toNatClampNeg 1 = 1 from rfl]
  refine hS _ _ _ _ ?_
  refine qv (hQ _ (fun k a b => (mz_k a).trans (f1 k b)) (fun s hs => by rw [mz_sl hs, e30]) mz_at (fun i hi => ?_)) ?_
  · show M1 32 0 0 i = _
    rw [e1, if_pos hi]
  · show _ = M1 31 0 0 1
    rw [e31]; exact hC.1.symm
theorem op_keep : OpOK 108 214 [] := by
  intro M hI d hd
  refine c_keep hd hI (fun M1 f1 s1 p1 l1 => ⟨_, rfl, ⟨funext fun i => f1 90 i (by omega) (by omega), funext fun i => f1 91 i (by omega) (by omega)⟩, ?_⟩)
  have g31 : M1 31 = M 31 := funext fun i => f1 31 i (by omega) (by omega)
  have g30 : M1 30 = M 30 := funext fun i => f1 30 i (by omega) (by omega)
  refine m_keep hd (by rw [g31]; exact hI.cn) (fun M2 f2 s2 p2 le => ⟨by rw [g31], ?_, ⟨f2 90 (by omega) (by omega), f2 91 (by omega) (by omega)⟩⟩)
  rw [g31] at le
  obtain ⟨a, b, c, d, e, g, k⟩ := hI
  have q : ∀ k, k ≠ 0 → k ≠ 1 → k ≠ 3 → k ≠ 5 → k ≠ 30 → k ≠ 32 → M2 k = M k := fun k h0 h1 h3 h5 h30 h32 => (f2 k h30 h32).trans (funext fun i => f1 k i h0 (by omega))
  have r : ∀ k i, (k = 1 ∨ k = 3 ∨ k = 5) → i ≠ 2 → M2 k i = M k i := fun k i h1 h2 => by rw [f2 k (by omega) (by omega)]; exact f1 k i (by omega) (by omega)
  have e9 : M2 9 = M 9 := q 9 (by omega) (by omega) (by omega) (by omega) (by omega) (by omega)
  have e10 : M2 10 = M 10 := q 10 (by omega) (by omega) (by omega) (by omega) (by omega) (by omega)
  have e31 : M2 31 = M 31 := q 31 (by omega) (by omega) (by omega) (by omega) (by omega) (by omega)
  have e0 : M2 0 = M1 0 := f2 0 (by omega) (by omega)
  have e11 : M2 11 = M 11 := q 11 (by omega) (by omega) (by omega) (by omega) (by omega) (by omega)
  have e16 : M2 16 = M 16 := q 16 (by omega) (by omega) (by omega) (by omega) (by omega) (by omega)
  have e17 : M2 17 = M 17 := q 17 (by omega) (by omega) (by omega) (by omega) (by omega) (by omega)
  have l2 : LL M2 2 (M 31 0 0) := l1.fr (by rw [f2 1 (by omega) (by omega)]) (by rw [f2 3 (by omega) (by omega)]) (by rw [f2 5 (by omega) (by omega)])
  refine ⟨a.cg (r 1 0 (by omega) (by omega)) (r 3 0 (by omega) (by omega)) (r 5 0 (by omega) (by omega)) e9 e10 (by rw [e31]), ?_,
    c.cg (fun s _ => by rw [e16]) (fun s _ => by rw [e17]) (q 58 (by omega) (by omega) (by omega) (by omega) (by omega) (by omega)) (q 59 (by omega) (by omega) (by omega) (by omega) (by omega) (by omega)) (q 60 (by omega) (by omega) (by omega) (by omega) (by omega) (by omega)),
    d.cg (q 19 (by omega) (by omega) (by omega) (by omega) (by omega) (by omega)) (r 3 3 (by omega) (by omega)) (fun s _ => by rw [e16]) (fun s _ => by rw [e17]) (q 61 (by omega) (by omega) (by omega) (by omega) (by omega) (by omega)) (q 62 (by omega) (by omega) (by omega) (by omega) (by omega) (by omega)) (q 63 (by omega) (by omega) (by omega) (by omega) (by omega) (by omega)) (q 64 (by omega) (by omega) (by omega) (by omega) (by omega) (by omega)),
    e.cg (by rw [e0]; exact s1 10 (by omega)) (by rw [s2 36 (by omega), g30]) (q 20 (by omega) (by omega) (by omega) (by omega) (by omega) (by omega)) (q 66 (by omega) (by omega) (by omega) (by omega) (by omega) (by omega)),
    g.cg (by rw [e11]) (by rw [s2 10 (by omega), g30]) (q 12 (by omega) (by omega) (by omega) (by omega) (by omega) (by omega)) (q 40 (by omega) (by omega) (by omega) (by omega) (by omega) (by omega)),
    k.cg (q 48 (by omega) (by omega) (by omega) (by omega) (by omega) (by omega)) (q 49 (by omega) (by omega) (by omega) (by omega) (by omega) (by omega))⟩
  refine ⟨by rw [e0, p1, p2], Or.inr ⟨by rw [e0]; exact p1, l2.le le, (a.2.1.cg TXE.rf e9 e10).le le, a.2.2.le le, ?_⟩⟩
  rw [e31, le.ct]
  exact Nat.le_refl _
theorem c_back (hd : 500 ≤ d) (hI : INV M) (k1 : M 0 0 0 5 = 0 → Q (some (.inl (-1000000002))) M) (k2 : M 0 0 0 5 = 1 → LL M 2 (M 32 0 0) → ∀ M1, Fl 0 M M1 → LL M1 0 (M 32 0 0) → Q (some (.inl (nI (cB (M 32 0 0))))) M1) : Td PR d 109 [.inr (0, 0, 0)] M Q := by
  obtain ⟨_, hb⟩ := hI.2.1
  obtain ⟨e, rfl⟩ : ∃ e, d = e + 1 := ⟨d - 1, by omega⟩
  refine td_X9_back ?_
  intro S hS
  iterate 3 refine hS _ _ _ _ ?_
  refine And.intro (fun h4 => ?_) (fun h4 => ?_)
  · have h5 : M 0 0 0 5 = 1 := hb.elim (fun z => absurd z h4) (fun z => z.1)
    have hl : LL M 2 (M 32 0 0) := hb.elim (fun z => absurd z h4) (fun z => z.2.1)
    iterate 5 refine hS _ _ _ _ ?_
    refine sp_landAs (by omega) (by decide) hl (fun M1 f1 l1 => ?_)
    iterate 4 refine hS _ _ _ _ ?_
    exact qv (k2 h5 hl M1 f1 l1) l1.bc.symm
  · iterate 2 refine hS _ _ _ _ ?_
    exact k1 h4
theorem m_back (hd : 500 ≤ d) (hC : M 30 0 0 3 = 0 ∨ (M 30 0 0 3 = 1 ∧ CN (M 32 0 0))) (k1 : M 30 0 0 3 = 0 → Q (some (.inl (-1000000002))) M) (k2 : M 30 0 0 3 = 1 → ∀ M1, (∀ k, k ≠ 31 → M1 k = M k) → LE (M 32 0 0) (M1 31 0 0) → Q (some (.inl (nI (cB (M 32 0 0))))) M1) : Td PR d 215 [.inr (30, 0, 0)] M Q := by
  obtain ⟨e, rfl⟩ : ∃ e, d = e + 1 := ⟨d - 1, by omega⟩
  refine td_X10_back ?_
  intro S hS
  iterate 3 refine hS _ _ _ _ ?_
  refine And.intro (fun h4 => ?_) (fun h4 => ?_)
  · have h5 := hC.resolve_left h4
    iterate 5 refine hS _ _ _ _ ?_
    refine sm_copy32_31 (by omega) (fun M1 f1 e1 => ?_)
    have le : LE (M 32 0 0) (M1 31 0 0) := fun i hi => by rw [e1, if_pos hi]
    iterate 4 refine hS _ _ _ _ ?_
    refine ⟨vp_l rfl, ?_⟩
    try rw [show Int32.toNatClampNeg 1 = 1 from rfl]
    refine hS _ _ _ _ ?_
    refine qv (k2 h5.1 M1 f1 le) ?_
    show _ = M1 31 0 0 1
    rw [le 1 (by omega)]; exact h5.2.1.symm
  · iterate 2 refine hS _ _ _ _ ?_
    exact k1 h4
theorem op_back : OpOK 109 215 [] := by
  intro M hI d hd
  have hb := hI.2.1
  refine c_back hd hI (fun z => ⟨_, rfl, ⟨rfl, rfl⟩, ?_⟩) (fun z hl M1 f1 l1 => ⟨_, rfl, ⟨funext fun i => f1 90 i (by omega), funext fun i => f1 91 i (by omega)⟩, ?_⟩)
  · refine m_back hd (Or.inl (by rw [← hb.1]; exact z)) (fun _ => ⟨rfl, hI, ⟨rfl, rfl⟩⟩) (fun y => absurd (hb.1.symm ▸ y : M 0 0 0 5 = 1) (by rw [z]; decide))
  · have g30 : M1 30 = M 30 := funext fun i => f1 30 i (by omega)
    have g32 : M1 32 = M 32 := funext fun i => f1 32 i (by omega)
    have h3 : M1 30 0 0 3 = 1 := by rw [g30, ← hb.1]; exact z
    obtain ⟨_, _, hT, hW, hct⟩ := hb.2.resolve_left (fun y => absurd (y.symm.trans z) (by decide))
    refine m_back hd (Or.inr ⟨h3, by rw [g32]; exact hl.1⟩) (fun y => absurd (y.symm.trans h3) (by decide)) (fun _ M2 f2 le => ⟨by rw [g32], ?_, ⟨f2 90 (by omega), f2 91 (by omega)⟩⟩)
    rw [g32] at le
    obtain ⟨a, b, c, d, e, g, k⟩ := hI
    have q : ∀ k, k ≠ 1 → k ≠ 3 → k ≠ 5 → k ≠ 31 → M2 k = M k := fun k h1 h3 h5 h31 => (f2 k h31).trans (funext fun i => f1 k i (by omega))
    have r : ∀ k i, (k = 1 ∨ k = 3 ∨ k = 5) → i ≠ 0 → M2 k i = M k i := fun k i h1 h2 => by rw [f2 k (by omega)]; exact f1 k i (by omega)
    have e9 : M2 9 = M 9 := q 9 (by omega) (by omega) (by omega) (by omega)
    have e10 : M2 10 = M 10 := q 10 (by omega) (by omega) (by omega) (by omega)
    have e16 : M2 16 = M 16 := q 16 (by omega) (by omega) (by omega) (by omega)
    have e17 : M2 17 = M 17 := q 17 (by omega) (by omega) (by omega) (by omega)
    have e0 : M2 0 = M 0 := q 0 (by omega) (by omega) (by omega) (by omega)
    have e30 : M2 30 = M 30 := q 30 (by omega) (by omega) (by omega) (by omega)
    have e11 : M2 11 = M 11 := q 11 (by omega) (by omega) (by omega) (by omega)
    have e32 : M2 32 = M 32 := q 32 (by omega) (by omega) (by omega) (by omega)
    have l2 : LL M2 0 (M 32 0 0) := l1.fr (by rw [f2 1 (by omega)]) (by rw [f2 3 (by omega)]) (by rw [f2 5 (by omega)])
    refine ⟨⟨l2.le le, (hT.cg TXE.rf e9 e10).le le, hW.le le⟩, ?_,
      c.cg (fun s _ => by rw [e16]) (fun s _ => by rw [e17]) (q 58 (by omega) (by omega) (by omega) (by omega)) (q 59 (by omega) (by omega) (by omega) (by omega)) (q 60 (by omega) (by omega) (by omega) (by omega)),
      d.cg (q 19 (by omega) (by omega) (by omega) (by omega)) (r 3 3 (by omega) (by omega)) (fun s _ => by rw [e16]) (fun s _ => by rw [e17]) (q 61 (by omega) (by omega) (by omega) (by omega)) (q 62 (by omega) (by omega) (by omega) (by omega)) (q 63 (by omega) (by omega) (by omega) (by omega)) (q 64 (by omega) (by omega) (by omega) (by omega)),
      e.cg (by rw [e0]) (by rw [e30]) (q 20 (by omega) (by omega) (by omega) (by omega)) (q 66 (by omega) (by omega) (by omega) (by omega)),
      g.cg (by rw [e11]) (by rw [e30]) (q 12 (by omega) (by omega) (by omega) (by omega)) (q 40 (by omega) (by omega) (by omega) (by omega)),
      k.cg (q 48 (by omega) (by omega) (by omega) (by omega)) (q 49 (by omega) (by omega) (by omega) (by omega))⟩
    refine ⟨by rw [e0, e30]; exact b.1, Or.inr ⟨by rw [e0]; exact z, by rw [e32]; exact hl.fr (r 1 2 (by omega) (by omega)) (r 3 2 (by omega) (by omega)) (r 5 2 (by omega) (by omega)), by rw [e32]; exact hT.cg TXE.rf e9 e10, by rw [e32]; exact hW, ?_⟩⟩
    rw [e32, le.ct]
    exact Nat.le_refl _
end W33
