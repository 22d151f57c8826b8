-- 63.pure34: check
noncomputable def exI (g : FA) (i : Nat) : Int32 := if i % 2 = 0 then nightsF g (i / 2 + 1) 5 else nI (homeF (nightsF g (i / 2 + 1)))
/-- how many are right ahead, from k on, of n -/
def raF (w x : FA) : Nat → Nat → Nat
  | k, 0 => k
  | k, n + 1 => if w k = x k then raF w x (k + 1) n else k
theorem raF_s {w x : FA} {k n : Nat} : raF w x k (n + 1) = if w k = x k then raF w x (k + 1) n else k := rfl
theorem raF_le {w x : FA} : ∀ n k, k ≤ raF w x k n ∧ raF w x k n ≤ k + n := by
  intro n
  induction n with
  | zero => intro k; exact ⟨Nat.le_refl _, Nat.le_refl _⟩
  | succ n ih =>
    intro k
    rw [raF_s]
    split
    · have := ih (k + 1); omega
    · omega
theorem raF_cg {w w' x : FA} {N : Nat} (h : ∀ i, i < N → w' i = w i) : ∀ n k, k + n ≤ N → raF w' x k n = raF w x k n := by
  intro n
  induction n with
  | zero => intro k _; rfl
  | succ n ih =>
    intro k hk
    rw [raF_s, raF_s, h k (by omega), ih (k + 1) (by omega)]
def gX (M : Mem) : FA := fun i => if i < 1458 then M 32 0 0 i else M 31 0 0 i
theorem gX_le {M : Mem} : LE (M 32 0 0) (gX M) := fun i hi => if_pos hi
noncomputable def chkV (M : Mem) (m : Nat) (n : Int32) : Int32 := iteC (¬ n < 1 ∧ ¬ 30 < n) (if M 0 0 0 5 = 0 then -1000000002 else if raF (M 20 0 0) (exI (gX M)) 0 (min m (2 * ncF (gX M) n.toNatClampNeg)) = m ∧ raF (M 20 0 0) (exI (gX M)) 0 (min m (2 * ncF (gX M) n.toNatClampNeg)) = 2 * ncF (gX M) n.toNatClampNeg then 0 else nI (1 + raF (M 20 0 0) (exI (gX M)) 0 (min m (2 * ncF (gX M) n.toNatClampNeg)))) (-1000000001)
section W34
variable {d K : Nat} {M : Mem} {Q : PQ} {g : FA}
theorem sp_rightAhead {m u : Nat} (hd : 20 ≤ d) (hm : m ≤ 60) (hu : u ≤ 1000) (hL : LL M 2 g) (hT : TX M g) (hW : WF 10000 g) (hQ : ∀ M1, Fn 1 M M1 → Q (some (.inl (nI (raF (M 20 0 0) (exI g) 0 (min m u))))) M1) : Td PR d 119 [.inr (0, 0, 0), .inl (nI m), .inl (nI u)] M Q := by
  have hml := Nat.min_le_left m u
  have hmr := Nat.min_le_right m u
  have hmm : min m u = m ∨ min m u = u := by
    rcases Nat.le_total m u with z | z
    · exact Or.inl (Nat.min_eq_left z)
    · exact Or.inr (Nat.min_eq_right z)
  have emin : (if nI u < nI m then nI u else nI m) = nI (min m u) := by
    by_cases z : u < m
    · rw [if_pos (nI_lt z (by omega)), Nat.min_eq_right (by omega)]
    · rw [if_neg (nI_nlt (by omega) (by omega)), Nat.min_eq_left (by omega)]
  generalize min m u = N at *
  generalize hR : raF (M 20 0 0) (exI g) 0 N = R at hQ
  obtain ⟨e, rfl⟩ : ∃ e, d = e + 1 := ⟨d - 1, by omega⟩
  refine td_X9_rightAhead ?_
  intro S hS
  have lp : ∀ M1, Fn 1 M M1 → LL M1 1 g → S 13 [some (.inr (0, 0, 0)), some (.inl (nI m)), some (.inl (nI u)), some (.inl 0), none] [] M1 := by
    intro M1 f1 l1
    refine lp_up (T := fun i => ∀ o M0, Fn 1 M M0 → LL M0 1 (nightsF g ((i + 1) / 2)) → raF (M 20 0 0) (exI g) i (N - i) = R → S 13 [some (.inr (0, 0, 0)), some (.inl (nI m)), some (.inl (nI u)), some (.inl (nI i)), o] [] M0) (N := N) ?_ ?_ 0 (Nat.zero_le _) none M1 f1 (show LL M1 1 (nightsF g ((0 + 1) / 2)) from l1) hR
    · intro o M0 a1 a2 a3
      rw [Nat.sub_self] at a3
      iterate 3 refine hS _ _ _ _ ?_
      refine And.intro (fun h15 => ?_) (fun h15 => ?_)
      · iterate 3 refine hS _ _ _ _ ?_
        refine hS _ _ _ _ ?_
        refine qv (hQ M0 a1) (Eq.trans ?_ emin.symm)
        exact congrArg nI a3.symm
      · have z1 : ¬ m ≤ N := fun z => h15 (nI_le z (by omega))
        iterate 3 refine hS _ _ _ _ ?_
        refine And.intro (fun h20 => ?_) (fun h20 => ?_)
        · iterate 3 refine hS _ _ _ _ ?_
          refine hS _ _ _ _ ?_
          refine qv (hQ M0 a1) (Eq.trans ?_ emin.symm)
          exact congrArg nI a3.symm
        · have z2 : ¬ u ≤ N := fun z => h20 (nI_le z (by omega))
          omega
    · intro i hi ih o M0 a1 a2 a3
      have e20 : M0 20 = M 20 := a1.kd (by decide) (by decide) (by decide) (by decide)
      have er : irem (nI i) 2 = nI (i % 2) := irem_nI (b := 2) (by omega) (by decide)
      have hwk := nights_wf hW ((i + 1) / 2)
      have hTk : TX M0 (nightsF g ((i + 1) / 2)) := (a1.tx hT).cg (nights_kn hW.1 _).2.2.2 rfl rfl
      rw [show N - i = (N - (i + 1)) + 1 by omega, raF_s] at a3
      have h12 : (i + 1 + 1) / 2 = i / 2 + 1 := by omega
      rw [nI_succ i, h12] at ih
      iterate 3 refine hS _ _ _ _ ?_
      refine And.intro (fun h15 => ?_) (fun h15 => ?_)
      · exact (lp_s rfl (show i < m by omega) (by omega) h15).elim
      · iterate 3 refine hS _ _ _ _ ?_
        refine And.intro (fun h20 => ?_) (fun h20 => ?_)
        · exact (lp_s rfl (show i < u by omega) (by omega) h20).elim
        · iterate 3 refine hS _ _ _ _ ?_
          refine ⟨by decide, ?_⟩
          rw [er]
          refine hS _ _ _ _ ?_
          refine And.intro (fun h26 => ?_) (fun h26 => ?_)
          · have hod : ¬ i % 2 = 0 := fun z => h26 (by rw [z]; rfl)
            have hh : (i + 1) / 2 = i / 2 + 1 := by omega
            rw [hh] at a2 hTk hwk
            have hx : exI g i = nI (homeF (nightsF g (i / 2 + 1))) := if_neg hod
            iterate 4 refine hS _ _ _ _ ?_
            refine And.intro (fun _ => ?_) (fun h => absurd h (by decide))
            iterate 4 refine hS _ _ _ _ ?_
            refine ⟨(by first | assumption | exact vp_in_nI (by simp only [alen]; omega) (by decide)), ?_⟩
            try rw [nI_clamp (by omega)]
            iterate 2 refine hS _ _ _ _ ?_
            refine And.intro (fun _ => ?_) (fun h => absurd h (by decide))
            iterate 3 refine hS _ _ _ _ ?_
            refine sp_thoseAtHome (by omega) a2 ?_
            refine hS _ _ _ _ ?_
            refine And.intro (fun h76 => ?_) (fun h76 => ?_)
            · have h76' : M 20 0 0 i = exI g i := by rw [hx, ← e20]; exact h76
              rw [if_pos h76'] at a3
              iterate 2 refine hS _ _ _ _ ?_
              exact ih _ M0 a1 a2 a3
            · have h76' : ¬ M 20 0 0 i = exI g i := by rw [hx, ← e20]; exact h76
              rw [if_neg h76'] at a3
              iterate 2 refine hS _ _ _ _ ?_
              exact qv (hQ M0 a1) (congrArg nI a3.symm)
          · have hev : i % 2 = 0 := (nI_eq (by omega) (by decide)).mp h26
            have hh : (i + 1) / 2 = i / 2 := by omega
            rw [hh] at a2 hTk hwk
            have hx : exI g i = nightsF g (i / 2 + 1) 5 := if_pos hev
            iterate 5 refine hS _ _ _ _ ?_
            refine And.intro (fun h => absurd h (by decide)) (fun _ => ?_)
            iterate 3 refine hS _ _ _ _ ?_
            refine sp_passNight (by omega) a2 hTk hwk.2.1 (fun M2 f2 l2 => ?_)
            have e20' : M2 20 = M 20 := (f2.kd (by decide) (by decide) (by decide) (by decide)).trans e20
            have es := l2.slept
            iterate 4 refine hS _ _ _ _ ?_
            refine ⟨(by first | assumption | exact vp_in_nI (by simp only [alen]; omega) (by decide)), ?_⟩
            try rw [nI_clamp (by omega)]
            iterate 2 refine hS _ _ _ _ ?_
            refine And.intro (fun h => absurd h (by decide)) (fun _ => ?_)
            iterate 5 refine hS _ _ _ _ ?_
            refine And.intro (fun h76 => ?_) (fun h76 => ?_)
            · have h76' : M 20 0 0 i = exI g i := by rw [hx, ← e20']; exact h76.trans es
              rw [if_pos h76'] at a3
              iterate 2 refine hS _ _ _ _ ?_
              exact ih _ M2 (a1.tr f2) l2 a3
            · have h76' : ¬ M 20 0 0 i = exI g i := by rw [hx, ← e20']; exact fun z => h76 (z.trans es.symm)
              rw [if_neg h76'] at a3
              iterate 2 refine hS _ _ _ _ ?_
              exact qv (hQ M2 (a1.tr f2)) (congrArg nI a3.symm)
  iterate 5 refine hS _ _ _ _ ?_
  refine sp_landAs (by omega) (by decide) hL (fun M1 f1 l1 => ?_)
  iterate 2 refine hS _ _ _ _ ?_
  exact lp M1 f1.fn l1
/-- touched by a check in the class -/
theorem c_check {m : Nat} {n : Int32} (hd : 500 ≤ d) (hI : INV M) (hm : m ≤ 60) (e10 : M 0 0 0 10 = nI m) (hQ : ∀ M1, Fn 1 (mu M 0 0 0 10 0) M1 → Q (some (.inl (chkV M m n))) M1) : Td PR d 107 [.inr (0, 0, 0), .inl n] M Q := by
  obtain ⟨_, hb⟩ := hI.2.1
  generalize hV : chkV M m n = W at hQ
  obtain ⟨e, rfl⟩ : ∃ e, d = e + 1 := ⟨d - 1, by omega⟩
  refine td_X9_check ?_
  intro S hS
  iterate 9 refine hS _ _ _ _ ?_
  refine And.intro (fun h12 => ?_) (fun h12 => ?_)
  · iterate 2 refine hS _ _ _ _ ?_
    rw [chkV, iteC_f (fun z => z.1 h12)] at hV
    exact qv (hQ _ Fn.rf) hV.symm
  · iterate 3 refine hS _ _ _ _ ?_
    refine And.intro (fun h18 => ?_) (fun h18 => ?_)
    · rw [chkV, iteC_t ⟨h12, Int32.not_lt.mpr h18⟩] at hV
      have h5 : mu M 0 0 0 10 0 0 0 0 5 = M 0 0 0 5 := mz_sl (by decide)
      iterate 3 refine hS _ _ _ _ ?_
      refine And.intro (fun h28 => ?_) (fun h28 => ?_)
      · have h28' : ¬ M 0 0 0 5 = 0 := fun z => h28 (h5.trans z)
        rw [if_neg h28'] at hV
        obtain ⟨_, hl, hT, hW, _⟩ := hb.resolve_left h28'
        have hl' : LL (mu M 0 0 0 10 0) 2 (gX M) := (hl.fr rfl rfl rfl).le gX_le
        have hT' : TX (mu M 0 0 0 10 0) (gX M) := (hT.le gX_le).cg TXE.rf rfl rfl
        have hW' := hW.le (gX_le (M := M))
        obtain ⟨k, hk, rfl⟩ : ∃ k, k < 31 ∧ n = nI k := (in_bd1 (n := 30) (by omega)).mp ⟨fun z => h12 (Int32.lt_trans z (by decide)), Int32.not_lt.mpr h18⟩
        rw [nI_clamp (by omega)] at hV
        obtain ⟨j, hj, ej⟩ := hW'.1.2.2
        have ec : ncF (gX M) k = min k (9999 - j) := by unfold ncF; rw [ej, nI_clamp (by omega)]
        have hcl : ncF (gX M) k ≤ 30 := by rw [ec]; have := Nat.min_le_left k (9999 - j); omega
        have en := hl'.night.trans ej
        have es : (9999 : Int32) - nI j = nI (9999 - j) := nI_sub (a := 9999) (by omega)
        have emn : (2 : Int32) * (if (9999 : Int32) - nI j < nI k then 9999 - nI j else nI k) = nI (2 * ncF (gX M) k) := by
          rw [es, ec]
          show nI 2 * _ = _
          by_cases z : 9999 - j < k
          · rw [if_pos (nI_lt z (by omega)), Nat.min_eq_right (by omega), nI_mul]
          · rw [if_neg (nI_nlt (by omega) (by omega)), Nat.min_eq_left (by omega), nI_mul]
        generalize ncF (gX M) k = c at *
        have hra := raF_le (w := M 20 0 0) (x := exI (gX M)) (min m (2 * c)) 0
        have hmi := Nat.min_le_left m (2 * c)
        iterate 8 refine hS _ _ _ _ ?_
        rw [show mu M 0 0 0 10 0 1 2 0 10 = nI j from en]
        iterate 6 refine hS _ _ _ _ ?_
        rw [emn, show M 0 0 0 10 = nI m from e10]
        refine sp_rightAhead (g := gX M) (m := m) (u := 2 * c) (by omega) hm (by omega) hl' hT' hW' (fun M1 f1 => ?_)
        iterate 4 refine hS _ _ _ _ ?_
        refine And.intro (fun h64 => ?_) (fun h64 => ?_)
        · have g64 : ¬ raF (M 20 0 0) (exI (gX M)) 0 (min m (2 * c)) = m := fun z => h64 (congrArg nI z)
          rw [if_neg (fun z => g64 z.1)] at hV
          iterate 4 refine hS _ _ _ _ ?_
          exact qv (hQ _ f1) (hV.symm.trans (nI_add 1 _).symm)
        · have h64' : nI (raF (M 20 0 0) (exI (gX M)) 0 (min m (2 * c))) = nI m := h64
          have g64 := (nI_eq (by omega) (by omega)).mp h64'
          iterate 3 refine hS _ _ _ _ ?_
          refine And.intro (fun h70 => ?_) (fun h70 => ?_)
          · have g70 : ¬ raF (M 20 0 0) (exI (gX M)) 0 (min m (2 * c)) = 2 * c := fun z => h70 (congrArg nI z)
            rw [if_neg (fun z => g70 z.2)] at hV
            iterate 4 refine hS _ _ _ _ ?_
            exact qv (hQ _ f1) (hV.symm.trans (nI_add 1 _).symm)
          · have h70' : nI (raF (M 20 0 0) (exI (gX M)) 0 (min m (2 * c))) = nI (2 * c) := h70
            have g70 := (nI_eq (by omega) (by omega)).mp h70'
            rw [if_pos ⟨g64, g70⟩] at hV
            iterate 3 refine hS _ _ _ _ ?_
            exact qv (hQ _ f1) hV.symm
      · have h28' : M 0 0 0 5 = 0 := h5.symm.trans h28
        rw [if_pos h28'] at hV
        iterate 2 refine hS _ _ _ _ ?_
        exact qv (hQ _ Fn.rf) hV.symm
    · iterate 2 refine hS _ _ _ _ ?_
      rw [chkV, iteC_f (fun z => z.2 (nle_lt h18))] at hV
      exact qv (hQ _ Fn.rf) hV.symm
theorem m_check {m : Nat} {n : Int32} (hd : 500 ≤ d) (hb : IImg M) (hm : m ≤ 60) (e36 : M 30 0 0 36 = nI m) (hw : ∀ i, i < m → M 20 0 0 i = M 66 0 0 i) (hQ : ∀ M1, (∀ k, k ≠ 30 → k ≠ 31 → k ≠ 33 → k ≠ 35 → k ≠ 56 → k ≠ 57 → M1 k = M k) → M1 30 = mu M 30 0 0 36 0 30 → LE (M 31 0 0) (M1 31 0 0) → Q (some (.inl (chkV M m n))) M1) : Td PR d 213 [.inr (30, 0, 0), .inl n] M Q := by
  generalize hV : chkV M m n = W at hQ
  have fA : ∀ s, s ≠ 36 → mu M 30 0 0 36 0 30 0 0 s = M 30 0 0 s := fun s hs => mz_sl hs
  have fin0 : Q (some (.inl W)) (mu M 30 0 0 36 0) := hQ _ (fun k h _ _ _ _ _ => mz_k h) rfl (fun _ _ => rfl)
  obtain ⟨e, rfl⟩ : ∃ e, d = e + 1 := ⟨d - 1, by omega⟩
  refine td_X10_check ?_
  intro S hS
  have fin : ∀ k c R q M0, R ≤ 60 → c ≤ 30 → (∀ M3, (∀ k, k ≠ 31 → M3 k = M0 k) → (∀ i, M3 31 0 0 i = if i < 1458 then M0 33 0 0 i else M0 31 0 0 i) → Q (some (.inl (if R = m ∧ R = 2 * c then 0 else nI (1 + R)))) M3) → S 180 [some (.inr (30, 0, 0)), some (.inl (nI k)), some (.inl (nI m)), some (.inl (nI (2 * c))), some (.inl (nI R)), some (.inl (nI q))] [] M0 := by
    intro k c R q M0 hR60 hc30 end0
    iterate 5 refine hS _ _ _ _ ?_
    refine sm_copy33_31 (by omega) (fun M3 f3 e3 => ?_)
    have hV := end0 M3 f3 e3
    iterate 3 refine hS _ _ _ _ ?_
    refine And.intro (fun h194 => ?_) (fun h194 => ?_)
    · have g194 : ¬ R = m := fun z => h194 (congrArg nI z)
      rw [if_neg (fun z => g194 z.1)] at hV
      iterate 4 refine hS _ _ _ _ ?_
      exact qv hV (nI_add 1 _).symm
    · have g194 := (nI_eq (by omega) (by omega)).mp h194
      iterate 3 refine hS _ _ _ _ ?_
      refine And.intro (fun h200 => ?_) (fun h200 => ?_)
      · have g200 : ¬ R = 2 * c := fun z => h200 (congrArg nI z)
        rw [if_neg (fun z => g200 z.2)] at hV
        iterate 4 refine hS _ _ _ _ ?_
        exact qv hV (nI_add 1 _).symm
      · have g200 := (nI_eq (by omega) (by omega)).mp h200
        rw [if_pos ⟨g194, g200⟩] at hV
        iterate 3 refine hS _ _ _ _ ?_
        exact hV
  have lp : ∀ k c N R f M2, c ≤ 30 → N ≤ m → N ≤ 2 * c → (N = m ∨ N = 2 * c) → NM 10000 f → raF (M2 66 0 0) (exI f) 0 N = R → (∀ q M0, Fm M2 M0 → S 180 [some (.inr (30, 0, 0)), some (.inl (nI k)), some (.inl (nI m)), some (.inl (nI (2 * c))), some (.inl (nI R)), some (.inl (nI q))] [] M0) → ∀ M0, Fm M2 M0 → M0 31 0 0 = f → S 80 [some (.inr (30, 0, 0)), some (.inl (nI k)), some (.inl (nI m)), some (.inl (nI (2 * c))), some (.inl (nI 0)), some (.inl (nI 0))] [] M0 := by
    intro k c N R f M2 hc30 hNm hNc hmx hN hR end0 M0 fm g0
    have e2i : ∀ i, (2 : Int32) * nI i = nI (2 * i) := fun i => nI_mul 2 i
    refine lp_up (T := fun i => ∀ M0, Fm M2 M0 → M0 31 0 0 = nightsF f i → 2 * i ≤ N → raF (M2 66 0 0) (exI f) (2 * i) (N - 2 * i) = R → S 80 [some (.inr (30, 0, 0)), some (.inl (nI k)), some (.inl (nI m)), some (.inl (nI (2 * c))), some (.inl (nI (2 * i))), some (.inl (nI i))] [] M0) (N := c) ?_ ?_ 0 (Nat.zero_le _) M0 fm g0 (by omega) hR
    · intro M0 a1 a2 a3 a4
      rw [show N - 2 * c = 0 by omega] at a4
      have a4' : 2 * c = R := a4
      iterate 5 refine hS _ _ _ _ ?_
      refine And.intro (fun h85 => ?_) (fun h85 => ?_)
      · exact a4' ▸ end0 c M0 a1
      · exact (by rw [e2i] at h85; exact (lp_x rfl h85).elim)
    · intro i hi ih M0 a1 a2 a3 a4
      have g66 : M0 66 = M2 66 := a1 66 (by decide) (by decide) (by decide) (by decide)
      rw [nI_succ i] at ih
      have z0 : ∀ v : Int32, v + 0 = v := fun v => Int32.add_zero v
      have out : ∀ M3, Fm M2 M3 → R < 2 * (i + 1) → S 80 [some (.inr (30, 0, 0)), some (.inl (nI k)), some (.inl (nI m)), some (.inl (nI (2 * c))), some (.inl (nI R)), some (.inl (nI i + 1))] [] M3 := by
        intro M3 b1 b2
        rw [← nI_succ]
        iterate 5 refine hS _ _ _ _ ?_
        refine And.intro (fun h85 => ?_) (fun h85 => ?_)
        · exact end0 (i + 1) M3 b1
        · iterate 5 refine hS _ _ _ _ ?_
          refine And.intro (fun h94 => ?_) (fun h94 => ?_)
          · exact end0 (i + 1) M3 b1
          · exact (by rw [e2i] at h94; have := (nI_eq (by omega) (by omega)).mp h94; omega)
      iterate 5 refine hS _ _ _ _ ?_
      refine And.intro (fun h85 => ?_) (fun h85 => ?_)
      · exact (by rw [e2i] at h85; exact (lp_s rfl (show 2 * i < 2 * c by omega) (by omega) h85).elim)
      · iterate 5 refine hS _ _ _ _ ?_
        refine And.intro (fun h94 => ?_) (fun h94 => ?_)
        · exact (h94 (e2i i).symm).elim
        · iterate 2 refine hS _ _ _ _ ?_
          refine sm_night (by omega) (K := 10000 + i) (by rw [a2]; exact nights_nm hN i) (by omega) (fun M3 f3 e3 => ?_)
          have b1 : Fm M2 M3 := fun k x y z w => (f3 k x y z w).trans (a1 k x y z w)
          have b2 : M3 31 0 0 = nightsF f (i + 1) := by rw [e3, a2]; rfl
          have b66 : M3 66 = M2 66 := b1 66 (by decide) (by decide) (by decide) (by decide)
          have hx0 : exI f (2 * i) = M3 31 0 0 5 := by
            unfold exI
            rw [if_pos (by omega), show 2 * i / 2 = i by omega, b2]
          have hx1 : exI f (2 * i + 1) = nI (homeF (M3 31 0 0)) := by
            unfold exI
            rw [if_neg (by omega), show (2 * i + 1) / 2 = i by omega, b2]
          iterate 4 refine hS _ _ _ _ ?_
          refine And.intro (fun h106 => ?_) (fun h106 => ?_)
          · have g106 : ¬ 2 * i < m := fun z => nI_ge z (by omega) h106
            have hr : 2 * i = R := by rw [show N - 2 * i = 0 by omega] at a4; exact a4
            iterate 11 refine hS _ _ _ _ ?_
            refine And.intro (fun h143 => ?_) (fun h143 => ?_)
            · iterate 5 refine hS _ _ _ _ ?_
              have o := out M3 b1 (by omega)
              rw [← hr] at o
              rw [z0, z0]
              exact o
            · exact (by rw [z0, e2i, ← nI_succ] at h143; have := (nI_eq (by omega) (by omega)).mp h143; omega)
          · have g106 : 2 * i < m := Nat.lt_of_not_le fun z => h106 (nI_le z (by omega))
            rw [show N - 2 * i = (N - (2 * i + 1)) + 1 by omega, raF_s, hx0] at a4
            iterate 4 refine hS _ _ _ _ ?_
            refine ⟨(by first | assumption | exact vp_in_nI (by simp only [alen]; omega) (by decide)), ?_⟩
            try rw [nI_clamp (by omega)]
            iterate 4 refine hS _ _ _ _ ?_
            refine ⟨vp_l rfl, ?_⟩
            try rw [show Int32.toNatClampNeg 5 = 5 from rfl]
            refine hS _ _ _ _ ?_
            refine And.intro (fun h122 => ?_) (fun h122 => ?_)
            · have h122' : ¬ M2 66 0 0 (2 * i) = M3 31 0 0 5 := by rw [← b66]; exact h122
              rw [if_neg h122'] at a4
              iterate 11 refine hS _ _ _ _ ?_
              refine And.intro (fun h143 => ?_) (fun h143 => ?_)
              · iterate 5 refine hS _ _ _ _ ?_
                have o := out M3 b1 (by omega)
                rw [← a4] at o
                rw [z0, z0]
                exact o
              · exact (by rw [z0, e2i, ← nI_succ] at h143; have := (nI_eq (by omega) (by omega)).mp h143; omega)
            · have h122' : M2 66 0 0 (2 * i) = M3 31 0 0 5 := by rw [← b66]; exact h122
              rw [if_pos h122'] at a4
              iterate 12 refine hS _ _ _ _ ?_
              refine And.intro (fun h143 => ?_) (fun h143 => ?_)
              · exact (h143 (by rw [e2i])).elim
              · iterate 3 refine hS _ _ _ _ ?_
                refine And.intro (fun h149 => ?_) (fun h149 => ?_)
                · rw [← nI_succ] at h149
                  have g149 : ¬ 2 * i + 1 < m := fun z => nI_ge z (by omega) h149
                  rw [show N - (2 * i + 1) = 0 by omega] at a4
                  have hr : 2 * i + 1 = R := a4
                  iterate 5 refine hS _ _ _ _ ?_
                  have o := out M3 b1 (by omega)
                  rw [← hr] at o
                  rw [z0, ← nI_succ (2 * i)]
                  exact o
                · rw [← nI_succ] at h149
                  rw [← nI_succ (2 * i)]
                  have g149 : 2 * i + 1 < m := Nat.lt_of_not_le fun z => h149 (nI_le z (by omega))
                  rw [show N - (2 * i + 1) = (N - (2 * i + 2)) + 1 by omega, raF_s, hx1] at a4
                  iterate 4 refine hS _ _ _ _ ?_
                  refine ⟨(by first | assumption | exact vp_in_nI (by simp only [alen]; omega) (by decide)), ?_⟩
                  try rw [nI_clamp (by omega)]
                  iterate 2 refine hS _ _ _ _ ?_
                  refine sm_atHome (by omega) (by rw [b2]; exact (nights_nm hN (i + 1)).1) ?_
                  refine hS _ _ _ _ ?_
                  refine And.intro (fun h163 => ?_) (fun h163 => ?_)
                  · have h163' : ¬ M2 66 0 0 (2 * i + 1) = nI (homeF (M3 31 0 0)) := by rw [← b66]; exact h163
                    rw [if_neg h163'] at a4
                    iterate 5 refine hS _ _ _ _ ?_
                    have o := out M3 b1 (by omega)
                    rw [← a4] at o
                    rw [z0]
                    exact o
                  · have h163' : M2 66 0 0 (2 * i + 1) = nI (homeF (M3 31 0 0)) := by rw [← b66]; exact h163
                    rw [if_pos h163'] at a4
                    iterate 6 refine hS _ _ _ _ ?_
                    have o := ih M3 b1 b2 (by omega) a4
                    rw [← nI_succ (2 * i + 1)]
                    exact o
  iterate 10 refine hS _ _ _ _ ?_
  refine sm_in (by omega) ?_
  refine hS _ _ _ _ ?_
  refine And.intro (fun h17 => ?_) (fun h17 => ?_)
  · replace h17 := bI_t h17
    rw [chkV, iteC_t h17] at hV
    have h3 : mu M 30 0 0 36 0 30 0 0 3 = M 0 0 0 5 := (fA 3 (by decide)).trans hb.1.symm
    iterate 3 refine hS _ _ _ _ ?_
    refine And.intro (fun h27 => ?_) (fun h27 => ?_)
    · have h27' : ¬ M 0 0 0 5 = 0 := fun z => h27 (h3.trans z)
      rw [if_neg h27'] at hV
      obtain ⟨_, _, _, hW, _⟩ := hb.2.resolve_left h27'
      have hW' := hW.le (gX_le (M := M))
      obtain ⟨k, hk, rfl⟩ : ∃ k, k < 31 ∧ n = nI k := (in_bd1 (n := 30) (by omega)).mp ⟨fun z => h17.1 (Int32.lt_trans z (by decide)), h17.2⟩
      rw [nI_clamp (by omega)] at hV
      obtain ⟨j, hj, ej⟩ := hW'.1.2.2
      have hcx : ncF (gX M) k = min k (9999 - j) := by unfold ncF; rw [ej, nI_clamp (by omega)]
      have es : (9999 : Int32) - nI j = nI (9999 - j) := nI_sub (a := 9999) (by omega)
      have ec : clamp (nI (9999 - j)) 0 (nI k) = nI (ncF (gX M) k) := by
        unfold clamp
        rw [if_neg (nI_pos (by omega)), hcx]
        by_cases z : k < 9999 - j
        · rw [if_pos (nI_lt z (by omega)), Nat.min_eq_left (by omega)]
        · rw [if_neg (nI_nlt (by omega) (by omega)), Nat.min_eq_right (by omega)]
      have hcl : ncF (gX M) k ≤ 30 := by rw [hcx]; have := Nat.min_le_left k (9999 - j); omega
      generalize ncF (gX M) k = c at *
      have hmi := Nat.min_le_left m (2 * c)
      have hmr := Nat.min_le_right m (2 * c)
      have hmm : ¬ min m (2 * c) < m → ¬ min m (2 * c) < 2 * c → m = 2 * c := by
        rcases Nat.le_total m (2 * c) with z | z
        · rw [Nat.min_eq_left z]; omega
        · rw [Nat.min_eq_right z]; omega
      have hmx : min m (2 * c) = m ∨ min m (2 * c) = 2 * c := by
        rcases Nat.le_total m (2 * c) with z | z
        · exact Or.inl (Nat.min_eq_left z)
        · exact Or.inr (Nat.min_eq_right z)
      generalize min m (2 * c) = N at *
      have hra := raF_le (w := M 20 0 0) (x := exI (gX M)) N 0
      generalize hR : raF (M 20 0 0) (exI (gX M)) 0 N = R at *
      have hR' : raF (M 66 0 0) (exI (gX M)) 0 N = R := (raF_cg (N := N) (fun i hi => (hw i (by omega)).symm) N 0 (by omega)).trans hR
      iterate 5 refine hS _ _ _ _ ?_
      refine sm_copy31_33 (by omega) (fun M1 f1 e1 => ?_)
      iterate 5 refine hS _ _ _ _ ?_
      refine sm_copy32_31 (by omega) (fun M2 f2 e2 => ?_)
      have k1 : ∀ k, k ≠ 33 → k ≠ 31 → M2 k = mu M 30 0 0 36 0 k := fun k a b => (f2 k b).trans (f1 k a)
      have g31 : M2 31 0 0 = gX M := funext fun i => by
        rw [e2, f1 32 (by decide), f1 31 (by decide)]
        rfl
      have g33 : ∀ i, i < 1458 → M2 33 0 0 i = M 31 0 0 i := fun i hi => by
        rw [f2 33 (by decide), e1, if_pos hi]
        rfl
      have g66 : M2 66 = M 66 := k1 66 (by decide) (by decide)
      have end0 : ∀ q M0, Fm M2 M0 → S 180 [some (.inr (30, 0, 0)), some (.inl (nI k)), some (.inl (nI m)), some (.inl (nI (2 * c))), some (.inl (nI R)), some (.inl (nI q))] [] M0 := by
        intro q M0 fm
        refine fin k c R q M0 (by omega) hcl (fun M3 f3 e3 => ?_)
        rw [hV]
        refine hQ M3 (fun k a b c d e g => ?_) ?_ (fun i hi => ?_)
        · rw [f3 k b, fm k b d e g, k1 k c b, mz_k a]
        · rw [f3 30 (by decide), fm 30 (by decide) (by decide) (by decide) (by decide), k1 30 (by decide) (by decide)]
        · rw [e3, if_pos hi, fm 33 (by decide) (by decide) (by decide) (by decide)]
          exact g33 i hi
      iterate 6 refine hS _ _ _ _ ?_
      refine ⟨vp_l rfl, ?_⟩
      rw [show M2 31 0 0 (Int32.toNatClampNeg 2) = nI j from (congrFun g31 2).trans ej]
      iterate 4 refine hS _ _ _ _ ?_
      rw [es]
      refine sm_within (by omega) ?_
      rw [ec]
      iterate 6 refine hS _ _ _ _ ?_
      rw [show M 30 0 0 36 = nI m from e36, show (2 : Int32) * nI c = nI (2 * c) from nI_mul 2 c]
      exact lp k c N R (gX M) M2 hcl (by omega) hmr hmx hW'.1 (g66 ▸ hR') end0 M2 Fm.rf g31
    · have h27' : M 0 0 0 5 = 0 := h3.symm.trans h27
      rw [if_pos h27'] at hV
      iterate 2 refine hS _ _ _ _ ?_
      exact qv fin0 hV.symm
  · replace h17 := bI_f h17
    iterate 2 refine hS _ _ _ _ ?_
    rw [chkV, iteC_f (fun z => h17 z)] at hV
    exact qv fin0 hV.symm
theorem INV.sl {M M' : Mem} (h : INV M) (f : ∀ k i, ¬ Sc k i → M' k i = M k i) (le : LE (M 31 0 0) (M' 31 0 0)) : INV M' := by
  obtain ⟨a, b, c, d, e, g, k⟩ := h
  have q : ∀ k, k < 8 ∨ (8 < k ∧ k < 14) ∨ (14 < k ∧ k < 31) ∨ k = 32 ∨ k = 40 ∨ k = 48 ∨ k = 49 ∨ (57 < k ∧ k < 65) ∨ 65 < k → ¬ (k = 1 ∨ k = 3 ∨ k = 5) → M' k = M k := fun k h1 h2 => funext fun i => f k i (by unfold Sc; omega)
  have r : ∀ k i, (k = 1 ∨ k = 3 ∨ k = 5) → i ≠ 1 → M' k i = M k i := fun k i h1 h2 => f k i (by unfold Sc; omega)
  have e30 : M' 30 = M 30 := q 30 (by omega) (by omega)
  have e0 : M' 0 = M 0 := q 0 (by omega) (by omega)
  have e11 : M' 11 = M 11 := q 11 (by omega) (by omega)
  have e9 := q 9 (by omega) (by omega)
  have e10 := q 10 (by omega) (by omega)
  exact ⟨⟨(a.1.fr (r 1 0 (by omega) (by omega)) (r 3 0 (by omega) (by omega)) (r 5 0 (by omega) (by omega))).le le, (a.2.1.cg TXE.rf e9 e10).le le, a.2.2.le le⟩,
    b.cg (by rw [e0]) (by rw [e30]) (r 1 2 (by omega) (by omega)) (r 3 2 (by omega) (by omega)) (r 5 2 (by omega) (by omega)) e9 e10 (by rw [q 32 (by omega) (by omega)]) le.ct,
    c.cg (fun s _ => by rw [q 16 (by omega) (by omega)]) (fun s _ => by rw [q 17 (by omega) (by omega)]) (q 58 (by omega) (by omega)) (q 59 (by omega) (by omega)) (q 60 (by omega) (by omega)),
    d.cg (q 19 (by omega) (by omega)) (r 3 3 (by omega) (by omega)) (fun s _ => by rw [q 16 (by omega) (by omega)]) (fun s _ => by rw [q 17 (by omega) (by omega)]) (q 61 (by omega) (by omega)) (q 62 (by omega) (by omega)) (q 63 (by omega) (by omega)) (q 64 (by omega) (by omega)),
    e.cg (by rw [e0]) (by rw [e30]) (q 20 (by omega) (by omega)) (q 66 (by omega) (by omega)),
    g.cg (by rw [e11]) (by rw [e30]) (q 12 (by omega) (by omega)) (q 40 (by omega) (by omega)),
    k.cg (q 48 (by omega) (by omega)) (q 49 (by omega) (by omega))⟩
theorem op_check {n : Int32} : OpOK 107 213 [.inl n] := by
  intro M hI d hd
  obtain ⟨w1, m, hm, w2, w3⟩ := hI.2.2.2.2.1
  have kd : ∀ M1, Fn 1 (mu M 0 0 0 10 0) M1 → ∀ k, k ≠ 0 → k ≠ 1 → k ≠ 3 → k ≠ 5 → k ≠ 8 → M1 k = M k := fun M1 f1 k a0 a1 a3 a5 a8 => (f1.kd a8 a1 a3 a5).trans (mz_k a0)
  have ki : ∀ M1, Fn 1 (mu M 0 0 0 10 0) M1 → ∀ k i, k ≠ 0 → k ≠ 8 → i ≠ 1 → M1 k i = M k i := fun M1 f1 k i a0 a8 ai => (f1 k i a8 (fun z => ai z.2)).trans (by rw [mz_k a0])
  refine c_check hd hI hm (w1.trans w2) (fun M1 f1 => ⟨_, rfl, ⟨kd M1 f1 90 (by decide) (by decide) (by decide) (by decide) (by decide), kd M1 f1 91 (by decide) (by decide) (by decide) (by decide) (by decide)⟩, ?_⟩)
  have e0 : M1 0 = mu M 0 0 0 10 0 0 := f1.kd (by decide) (by decide) (by decide) (by decide)
  have q := kd M1 f1
  have r := ki M1 f1
  have e30 : M1 30 = M 30 := q 30 (by decide) (by decide) (by decide) (by decide) (by decide)
  have e20 : M1 20 = M 20 := q 20 (by decide) (by decide) (by decide) (by decide) (by decide)
  have e66 : M1 66 = M 66 := q 66 (by decide) (by decide) (by decide) (by decide) (by decide)
  have e31 : M1 31 = M 31 := q 31 (by decide) (by decide) (by decide) (by decide) (by decide)
  have e32 : M1 32 = M 32 := q 32 (by decide) (by decide) (by decide) (by decide) (by decide)
  have e9 : M1 9 = M 9 := q 9 (by decide) (by decide) (by decide) (by decide) (by decide)
  have e10 : M1 10 = M 10 := q 10 (by decide) (by decide) (by decide) (by decide) (by decide)
  have h5 : M1 0 0 0 5 = M 0 0 0 5 := by rw [e0]; exact mz_sl (by decide)
  have hb1 : IImg M1 := hI.2.1.cg h5 (by rw [e30]) (r 1 2 (by decide) (by decide) (by decide)) (r 3 2 (by decide) (by decide) (by decide)) (r 5 2 (by decide) (by decide) (by decide)) e9 e10 (by rw [e32]) (by rw [e31])
  have hv : chkV M1 m n = chkV M m n := by
    have hg : gX M1 = gX M := by unfold gX; rw [e31, e32]
    simp only [chkV, h5, e20, hg]
  rw [← hv]
  refine m_check hd hb1 hm (by rw [e30]; exact w2) (fun i hi => by rw [e20, e66]; exact w3 i hi) (fun M2 f2 s2 le => ⟨rfl, ?_, ⟨f2 90 (by decide) (by decide) (by decide) (by decide) (by decide) (by decide), f2 91 (by decide) (by decide) (by decide) (by decide) (by decide) (by decide)⟩⟩)
  have hIw : INV (mu (mu M 0 0 0 10 0) 30 0 0 36 0) := by
    refine hI.wt (fun k a b c d => by rw [mz_k c, mz_k a]) ?_ ?_ ?_ ⟨?_, 0, by decide, mz_at, fun i hi => absurd hi (by omega)⟩
    · show mu M 0 0 0 10 0 0 0 0 5 = _
      exact mz_sl (by decide)
    · exact mz_sl (by decide)
    · exact mz_sl (by decide)
    · rw [mz_at]
      show mu M 0 0 0 10 0 0 0 0 10 = _
      exact mz_at
  refine hIw.sl (fun k i hs => ?_) ?_
  · by_cases z : k = 30
    · subst z
      rw [s2]
      funext j t
      simp [mu, mr, upd, e30]
    · have hs' : k ≠ 31 ∧ k ≠ 33 ∧ k ≠ 35 ∧ k ≠ 56 ∧ k ≠ 57 ∧ k ≠ 8 ∧ ¬ ((k = 1 ∨ k = 3 ∨ k = 5) ∧ i = 1) := by unfold Sc at hs; omega
      rw [f2 k z hs'.1 hs'.2.1 hs'.2.2.1 hs'.2.2.2.1 hs'.2.2.2.2.1, mz_k z]
      exact f1 k i hs'.2.2.2.2.2.1 hs'.2.2.2.2.2.2
  · show LE (M 31 0 0) _
    rw [← e31]; exact le
end W34
