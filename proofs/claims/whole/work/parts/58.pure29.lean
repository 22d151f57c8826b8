-- 58.pure29: reads, pour
/-- the first place, from k on, of n, that is not the town of that one -/
noncomputable def rdF (f : FA) (c : FA) : Nat → Nat → Int32
  | _, 0 => -1000000005
  | k, n + 1 => if ¬ c k = -1000000005 ∧ (cP f ≤ k ∨ ¬ c k = f (50 + 4 * k)) then nI k else rdF f c (k + 1) n
theorem rdF_s {f c : FA} {k n : Nat} : rdF f c k (n + 1) = if ¬ c k = -1000000005 ∧ (cP f ≤ k ∨ ¬ c k = f (50 + 4 * k)) then nI k else rdF f c (k + 1) n := rfl
noncomputable def readsV (M : Mem) (s : Int32) : Int32 := iteC (isBd 4 s) (if M 58 0 0 s.toNatClampNeg < 0 then -1000000011 else rdF (M 31 0 0) (cellsF M s.toNatClampNeg) 0 (M 59 0 0 s.toNatClampNeg).toNatClampNeg) (-1000000001)
theorem c_reads {M : Mem} {Q : PQ} {d : Nat} {s : Int32} (hd : 500 ≤ d) (hI : INV M) (hQ : ∀ M', FrS M M' → Q (some (.inl (readsV M s))) M') : Td PR d 100 [.inr (0, 0, 0), .inl s] M Q := by
  have hL := hI.ll
  have hC := hI.cn
  have hb10 := hL.b10
  have hp9 := hL.p9
  have ht14 := hL.t14
  generalize hV : readsV M s = W at hQ
  have clp : ∀ j n, j < 4 → n ≤ 24 → M 16 j 0 1 = nI n → (∀ k, k < n → M 60 0 0 (24 * j + k) = M 17 j 0 k) → ∀ W, rdF (M 31 0 0) (cellsF M j) 0 n = W → ∀ Q : PQ, (∀ M', FrS M M' → Q (some (.inl W)) M') → ∀ {e : Nat} (S : CF), Clo (Td PR e) (some .int) T_X9_reads Q S → 20 ≤ e → S 29 [some (.inr (0, 0, 0)), some (.inl (nI j)), some (.inr (16, j, 0)), some (.inl 0)] [] M := by
    intro j n hj hn r4 r5 W hV Q hQ e S hS he
    refine lp_up (T := fun i => rdF (M 31 0 0) (cellsF M j) i (n - i) = W → S 29 [some (.inr (0, 0, 0)), some (.inl (nI j)), some (.inr (16, j, 0)), some (.inl (nI i))] [] M) (N := n) ?_ ?_ 0 (Nat.zero_le _) hV
    · intro hV
      rw [Nat.sub_self] at hV
      iterate 4 refine hS _ _ _ _ ?_
      refine And.intro (fun h34 => ?_) (fun h34 => ?_)
      · iterate 2 refine hS _ _ _ _ ?_
        exact qv (hQ _ FrS.rf) hV.symm
      · exact (lp_x r4 h34).elim
    · intro i hi ih hV
      rw [show n - i = (n - (i + 1)) + 1 by omega, rdF_s] at hV
      have ec : cellsF M j i = M 17 j 0 i := r5 i hi
      rw [ec] at hV
      rw [nI_succ i] at ih
      iterate 4 refine hS _ _ _ _ ?_
      refine And.intro (fun h34 => ?_) (fun h34 => ?_)
      · exact (lp_s r4 hi (by omega) h34).elim
      · iterate 3 refine hS _ _ _ _ ?_
        refine sp_isNumber (by omega) r4 hn hi ?_
        refine hS _ _ _ _ ?_
        refine And.intro (fun h42 => ?_) (fun h42 => ?_)
        · replace h42 := bI_f h42
          rw [if_neg (fun z => h42 z.1)] at hV
          iterate 2 refine hS _ _ _ _ ?_
          exact ih hV
        · replace h42 := bI_t h42
          iterate 3 refine hS _ _ _ _ ?_
          refine sp_isOne (by omega) hL ?_
          refine hS _ _ _ _ ?_
          refine And.intro (fun h50 => ?_) (fun h50 => ?_)
          · replace h50 := bI_f h50
            have hp : cP (M 31 0 0) ≤ i := Nat.le_of_not_lt fun z => h50 (isBd_nI z)
            rw [if_pos ⟨h42, Or.inl hp⟩] at hV
            iterate 2 refine hS _ _ _ _ ?_
            exact qv (hQ _ FrS.rf) hV.symm
          · replace h50 := bI_t h50
            have hp : i < cP (M 31 0 0) := by
              obtain ⟨x, hx, ex⟩ := h50
              have := (nI_eq (by omega) (by omega)).mp ex
              omega
            have et := hL.town hp
            iterate 4 refine hS _ _ _ _ ?_
            refine ⟨(by first | assumption | exact vp_in_nI (by simp only [alen]; omega) (by decide)), ?_⟩
            try rw [nI_clamp (by omega)]
            iterate 5 refine hS _ _ _ _ ?_
            refine ⟨(by first | assumption | exact vp_in_nI (by simp only [alen]; omega) (by decide)), ?_⟩
            try rw [nI_clamp (by omega)]
            iterate 2 refine hS _ _ _ _ ?_
            refine And.intro (fun h71 => ?_) (fun h71 => ?_)
            · rw [if_neg (fun z => z.2.elim (fun y => by omega) (fun y => y (h71.trans et)))] at hV
              iterate 2 refine hS _ _ _ _ ?_
              exact ih hV
            · rw [if_pos ⟨h42, Or.inr (fun y => h71 (y.trans et.symm))⟩] at hV
              iterate 2 refine hS _ _ _ _ ?_
              exact qv (hQ _ FrS.rf) hV.symm
  obtain ⟨e, rfl⟩ : ∃ e, d = e + 1 := ⟨d - 1, by omega⟩
  refine td_X9_reads ?_
  intro S hS
  iterate 2 refine hS _ _ _ _ ?_
  refine sp_isSheet (by omega) ?_
  refine hS _ _ _ _ ?_
  refine And.intro (fun h4 => ?_) (fun h4 => ?_)
  · replace h4 := bI_t h4
    rw [readsV, iteC_t h4] at hV
    obtain ⟨j, hj, rfl⟩ := h4
    rw [nI_clamp (by omega)] at hV
    obtain ⟨r1, r2, r3, ⟨n, hn, r4⟩, r5⟩ := hI.2.2.1 j hj
    rw [r1, r2, r4, nI_clamp (by omega)] at hV
    iterate 4 refine hS _ _ _ _ ?_
    refine ⟨(by first | assumption | exact vp_in_nI (by simp only [alen]; omega) (by decide)), ?_⟩
    try rw [nI_clamp (by omega)]
    iterate 3 refine hS _ _ _ _ ?_
    refine sp_isMissing (by omega) ?_
    refine hS _ _ _ _ ?_
    refine And.intro (fun h21 => ?_) (fun h21 => ?_)
    · replace h21 := bI_f h21
      have hge : ¬ M 16 j 0 0 < 0 := by
        rcases r3 with z | z | z
        · exact absurd z h21
        · rw [z]; decide
        · rw [z]; decide
      rw [if_neg hge] at hV
      iterate 2 refine hS _ _ _ _ ?_
      exact clp j n hj (by omega) r4 (fun k hk => r5 k (by omega)) W hV Q hQ _ hS (by omega)
    · replace h21 := bI_t h21
      iterate 2 refine hS _ _ _ _ ?_
      rw [h21, if_pos (by decide)] at hV
      exact qv (hQ _ FrS.rf) hV.symm
  · replace h4 := bI_f h4
    iterate 2 refine hS _ _ _ _ ?_
    rw [readsV, iteC_f h4] at hV
    exact qv (hQ _ FrS.rf) hV.symm
theorem m_reads {M : Mem} {Q : PQ} {d : Nat} {s : Int32} (hd : 500 ≤ d) (hI : INV M) (hQ : ∀ M', FrS M M' → Q (some (.inl (readsV M s))) M') : Td PR d 206 [.inr (30, 0, 0), .inl s] M Q := by
  have hL := hI.ll
  have hC := hI.cn
  have hb10 := hL.b10
  have hp9 := hL.p9
  have ht14 := hL.t14
  generalize hV : readsV M s = W at hQ
  have mlp : ∀ j n, j < 4 → n ≤ 24 → M 59 0 0 j = nI n → ∀ W, rdF (M 31 0 0) (cellsF M j) 0 n = W → ∀ Q : PQ, (∀ M', FrS M M' → Q (some (.inl W)) M') → ∀ {e : Nat} (S : CF), Clo (Td PR e) (some .int) T_X10_reads Q S → 20 ≤ e → S 24 [some (.inr (30, 0, 0)), some (.inl (nI j)), some (.inl 0), none] [] M := by
    intro j n hj hn r4 W hV Q hQ e S hS he
    refine lp_up (T := fun i => ∀ o, rdF (M 31 0 0) (cellsF M j) i (n - i) = W → S 24 [some (.inr (30, 0, 0)), some (.inl (nI j)), some (.inl (nI i)), o] [] M) (N := n) ?_ ?_ 0 (Nat.zero_le _) none hV
    · intro o hV
      rw [Nat.sub_self] at hV
      iterate 5 refine hS _ _ _ _ ?_
      refine ⟨(by first | assumption | exact vp_in_nI (by simp only [alen]; omega) (by decide)), ?_⟩
      try rw [nI_clamp (by omega)]
      refine hS _ _ _ _ ?_
      refine And.intro (fun h31 => ?_) (fun h31 => ?_)
      · iterate 2 refine hS _ _ _ _ ?_
        exact qv (hQ _ FrS.rf) hV.symm
      · exact (lp_x r4 h31).elim
    · intro i hi ih o hV
      rw [show n - i = (n - (i + 1)) + 1 by omega, rdF_s] at hV
      have ec : M 60 0 0 (24 * j + i) = cellsF M j i := rfl
      rw [nI_succ i] at ih
      have ix : (24 : Int32) * nI j + nI i = nI (24 * j + i) := by
        show nI 24 * nI j + nI i = _
        rw [nI_mul, nI_add]
      iterate 5 refine hS _ _ _ _ ?_
      refine ⟨(by first | assumption | exact vp_in_nI (by simp only [alen]; omega) (by decide)), ?_⟩
      try rw [nI_clamp (by omega)]
      refine hS _ _ _ _ ?_
      refine And.intro (fun h31 => ?_) (fun h31 => ?_)
      · exact (lp_s r4 hi (by omega) h31).elim
      · iterate 8 refine hS _ _ _ _ ?_
        rw [ix]
        refine ⟨(by first | assumption | exact vp_in_nI (by simp only [alen]; omega) (by decide)), ?_⟩
        rw [nI_clamp (by omega), ec]
        iterate 4 refine hS _ _ _ _ ?_
        refine And.intro (fun h49 => ?_) (fun h49 => ?_)
        · rw [if_neg (fun z => z.1 h49)] at hV
          iterate 2 refine hS _ _ _ _ ?_
          exact ih _ hV
        · iterate 3 refine hS _ _ _ _ ?_
          refine sm_isOne (by omega) hC ?_
          refine hS _ _ _ _ ?_
          refine And.intro (fun h57 => ?_) (fun h57 => ?_)
          · replace h57 := bI_f h57
            have hp : cP (M 31 0 0) ≤ i := Nat.le_of_not_lt fun z => h57 (isBd_nI z)
            rw [if_pos ⟨h49, Or.inl hp⟩] at hV
            iterate 2 refine hS _ _ _ _ ?_
            exact qv (hQ _ FrS.rf) hV.symm
          · replace h57 := bI_t h57
            have hp : i < cP (M 31 0 0) := by
              obtain ⟨x, hx, ex⟩ := h57
              have := (nI_eq (by omega) (by omega)).mp ex
              omega
            iterate 5 refine hS _ _ _ _ ?_
            refine sm_by0 (by omega) (by omega) ?_
            refine hS _ _ _ _ ?_
            refine And.intro (fun h67 => ?_) (fun h67 => ?_)
            · rw [if_neg (fun z => z.2.elim (fun y => by omega) (fun y => y h67))] at hV
              iterate 2 refine hS _ _ _ _ ?_
              exact ih _ hV
            · rw [if_pos ⟨h49, Or.inr h67⟩] at hV
              iterate 2 refine hS _ _ _ _ ?_
              exact qv (hQ _ FrS.rf) hV.symm
  obtain ⟨e, rfl⟩ : ∃ e, d = e + 1 := ⟨d - 1, by omega⟩
  refine td_X10_reads ?_
  intro S hS
  iterate 2 refine hS _ _ _ _ ?_
  refine sm_isSheet (by omega) ?_
  refine hS _ _ _ _ ?_
  refine And.intro (fun h4 => ?_) (fun h4 => ?_)
  · replace h4 := bI_t h4
    rw [readsV, iteC_t h4] at hV
    obtain ⟨j, hj, rfl⟩ := h4
    rw [nI_clamp (by omega)] at hV
    obtain ⟨r1, r2, r3, ⟨n, hn, r4⟩, r5⟩ := hI.2.2.1 j hj
    rw [r2, r4, nI_clamp (by omega)] at hV
    iterate 4 refine hS _ _ _ _ ?_
    refine ⟨(by first | assumption | exact vp_in_nI (by simp only [alen]; omega) (by decide)), ?_⟩
    try rw [nI_clamp (by omega)]
    refine hS _ _ _ _ ?_
    refine And.intro (fun h16 => ?_) (fun h16 => ?_)
    · rw [if_neg (Int32.not_lt.mpr h16)] at hV
      iterate 2 refine hS _ _ _ _ ?_
      exact mlp j n hj (by omega) (r2.trans r4) W hV Q hQ _ hS (by omega)
    · rw [if_pos (nle_lt h16)] at hV
      iterate 2 refine hS _ _ _ _ ?_
      exact qv (hQ _ FrS.rf) hV.symm
  · replace h4 := bI_f h4
    iterate 2 refine hS _ _ _ _ ?_
    rw [readsV, iteC_f h4] at hV
    exact qv (hQ _ FrS.rf) hV.symm
theorem op_reads {s : Int32} : OpOK 100 206 [.inl s] := op_q (fun M => readsV M s) (fun M Q d hd hI hQ => c_reads hd hI hQ) (fun M Q d hd hI hQ => m_reads hd hI hQ) (fun M M' h => by have e : cellsF M' = cellsF M := (by funext a b; unfold cellsF; rw [h.q (k := 60) (by omega)]); simp only [readsV, h.k31, h.q (k := 58) (by omega), h.q (k := 59) (by omega), e])

/-- TO of the first n beds become places of a row: how many are otherwise then -/
noncomputable def prF (f : FA) (c : FA) : Nat → Nat × FA
  | 0 => (0, f)
  | b + 1 => ((prF f c b).1 + (if (prF f c b).2 (12 + 4 * b) = (if c b = -1000000005 then (prF f c b).2 (12 + 4 * b) else clamp (c b) 0 7) then 0 else 1), upd (prF f c b).2 (12 + 4 * b) (if c b = -1000000005 then (prF f c b).2 (12 + 4 * b) else clamp (c b) 0 7))
theorem prF_s {f c : FA} {b : Nat} : prF f c (b + 1) = ((prF f c b).1 + (if (prF f c b).2 (12 + 4 * b) = (if c b = -1000000005 then (prF f c b).2 (12 + 4 * b) else clamp (c b) 0 7) then 0 else 1), upd (prF f c b).2 (12 + 4 * b) (if c b = -1000000005 then (prF f c b).2 (12 + 4 * b) else clamp (c b) 0 7)) := rfl
theorem clamp7 (x : Int32) : isBd 8 (clamp x 0 7) := by
  unfold clamp
  by_cases h : x < 0
  · rw [if_pos h]; exact ⟨0, by omega, rfl⟩
  · rw [if_neg h]
    by_cases h2 : 7 < x
    · rw [if_pos h2]; exact ⟨7, by omega, rfl⟩
    · rw [if_neg h2]
      exact (in_bd1 (n := 7) (by omega)).mp ⟨h, h2⟩
theorem if01 {p : Prop} [Decidable p] : (if p then (0 : Nat) else 1) ≤ 1 := by split <;> omega
theorem prF_ok {f c : FA} (h : WF 10000 f) : ∀ n, n ≤ cB f → WF 10000 (prF f c n).2 ∧ TXE f (prF f c n).2 ∧ KP f (prF f c n).2 ∧ (prF f c n).1 ≤ n := by
  have b10 := h.1.1.2.1
  intro n
  induction n with
  | zero => intro _; exact ⟨h, TXE.rf, KP.rf, Nat.le_refl _⟩
  | succ n ih =>
    intro hn
    obtain ⟨a, b, kk, d⟩ := ih (by omega)
    have kp : KP (prF f c n).2 (prF f c (n + 1)).2 := by rw [prF_s]; exact KP.up (by omega)
    refine ⟨?_, b.tr kp.2.2.2.2, kk.tr kp, ?_⟩
    · rw [prF_s]
      refine wf_bed a (by omega) (by omega) (Or.inl ?_)
      split
      · exact (a.2.2.1 n (by rw [kk.cb]; omega)).2.1
      · exact clamp7 _
    · rw [prF_s]
      exact Nat.add_le_add d if01
noncomputable def pourP (M : Mem) (s : Int32) : Int32 × FA := itP (isBd 4 s) (if M 58 0 0 s.toNatClampNeg < 0 then (-1000000011, M 31 0 0) else (nI (prF (M 31 0 0) (cellsF M s.toNatClampNeg) (min (cB (M 31 0 0)) (M 59 0 0 s.toNatClampNeg).toNatClampNeg)).1, (prF (M 31 0 0) (cellsF M s.toNatClampNeg) (min (cB (M 31 0 0)) (M 59 0 0 s.toNatClampNeg).toNatClampNeg)).2)) (-1000000001, M 31 0 0)
theorem pourP_wf {M : Mem} {s : Int32} (hI : INV M) : WF 10000 (pourP M s).2 ∧ TXE (M 31 0 0) (pourP M s).2 := by
  by_cases c : isBd 4 s
  · rw [pourP, itP_t c]
    split
    · exact ⟨hI.wf, TXE.rf⟩
    · obtain ⟨a, b, _⟩ := prF_ok (c := cellsF M s.toNatClampNeg) hI.wf (min (cB (M 31 0 0)) (M 59 0 0 s.toNatClampNeg).toNatClampNeg) (Nat.min_le_left _ _)
      exact ⟨a, b⟩
  · rw [pourP, itP_f c]
    exact ⟨hI.wf, TXE.rf⟩
theorem c_pour {M : Mem} {Q : PQ} {d : Nat} {s : Int32} (hd : 500 ≤ d) (hI : INV M) (hQ : ∀ M1, Fn 0 M M1 → LL M1 0 (pourP M s).2 → Q (some (.inl (pourP M s).1)) M1) : Td PR d 99 [.inr (0, 0, 0), .inl s] M Q := by
  have hL := hI.ll
  have hC := hI.cn
  have hW := hI.wf
  have hb10 := hL.b10
  have hp9 := hL.p9
  have ht14 := hL.t14
  generalize hV : pourP M s = W at hQ
  have clp : ∀ j n, j < 4 → n ≤ 24 → M 16 j 0 1 = nI n → (∀ k, k < n → M 60 0 0 (24 * j + k) = M 17 j 0 k) → ∀ Q : PQ, (∀ M1, Fn 0 M M1 → LL M1 0 (prF (M 31 0 0) (cellsF M j) (min (cB (M 31 0 0)) n)).2 → Q (some (.inl (nI (prF (M 31 0 0) (cellsF M j) (min (cB (M 31 0 0)) n)).1))) M1) → ∀ {e : Nat} (S : CF), Clo (Td PR e) (some .int) T_X9_pour Q S → 20 ≤ e → S 32 [some (.inr (0, 0, 0)), some (.inl (nI j)), some (.inr (16, j, 0)), some (.inl 0), some (.inl 0), none] [] M := by
    intro j n hj hn r4 r5 Q hQ e S hS he
    have hml := Nat.min_le_left (cB (M 31 0 0)) n
    have hmr := Nat.min_le_right (cB (M 31 0 0)) n
    have hmm : min (cB (M 31 0 0)) n = cB (M 31 0 0) ∨ min (cB (M 31 0 0)) n = n := by
      rcases Nat.le_total (cB (M 31 0 0)) n with z | z
      · exact Or.inl (Nat.min_eq_left z)
      · exact Or.inr (Nat.min_eq_right z)
    generalize min (cB (M 31 0 0)) n = N at *
    refine lp_up (T := fun i => ∀ o M0, Fn 0 M M0 → LL M0 0 (prF (M 31 0 0) (cellsF M j) i).2 → S 32 [some (.inr (0, 0, 0)), some (.inl (nI j)), some (.inr (16, j, 0)), some (.inl (nI (prF (M 31 0 0) (cellsF M j) i).1)), some (.inl (nI i)), o] [] M0) (N := N) ?_ ?_ 0 (Nat.zero_le _) none M Fn.rf hL
    · intro o M0 a1 a2
      have e16 : M0 16 = M 16 := a1.kd (by decide) (by decide) (by decide) (by decide)
      have en : M0 16 j 0 1 = nI n := by rw [e16]; exact r4
      have e2 := a2.bc
      rw [(prF_ok hW N hml).2.2.1.cb] at e2
      iterate 5 refine hS _ _ _ _ ?_
      refine And.intro (fun h41 => ?_) (fun h41 => ?_)
      · iterate 2 refine hS _ _ _ _ ?_
        exact hQ M0 a1 a2
      · have hz : ¬ cB (M 31 0 0) ≤ N := fun z => h41 (by rw [show M0 1 0 0 2 = _ from e2]; exact nI_le z (by omega))
        iterate 4 refine hS _ _ _ _ ?_
        refine And.intro (fun h50 => ?_) (fun h50 => ?_)
        · iterate 2 refine hS _ _ _ _ ?_
          exact hQ M0 a1 a2
        · have hz2 : ¬ n ≤ N := fun z => h50 (by rw [show M0 16 j 0 1 = _ from en]; exact nI_le z (by omega))
          omega
    · intro i hi ih o M0 a1 a2
      have e16 : M0 16 = M 16 := a1.kd (by decide) (by decide) (by decide) (by decide)
      have e17 : M0 17 = M 17 := a1.kd (by decide) (by decide) (by decide) (by decide)
      have en : M0 16 j 0 1 = nI n := by rw [e16]; exact r4
      obtain ⟨w, tx, kp, hle⟩ := prF_ok (c := cellsF M j) hW i (by omega)
      have e2 := a2.bc
      rw [kp.cb] at e2
      have hib : i < cB (prF (M 31 0 0) (cellsF M j) i).2 := by rw [kp.cb]; omega
      have et := a2.to hib
      have ec : M 17 j 0 i = cellsF M j i := (r5 i (by omega)).symm
      have es := prF_s (f := M 31 0 0) (c := cellsF M j) (b := i)
      have wr := fun v => a2.b2 (v := v) hib
      generalize hg : prF (M 31 0 0) (cellsF M j) i = g at *
      have go : ∀ o' M2 v, Fn 0 M M2 → LL M2 0 (prF (M 31 0 0) (cellsF M j) (i + 1)).2 → v = nI (prF (M 31 0 0) (cellsF M j) (i + 1)).1 → S 32 [some (.inr (0, 0, 0)), some (.inl (nI j)), some (.inr (16, j, 0)), some (.inl v), some (.inl (nI i + 1)), o'] [] M2 := by
        intro o' M2 v x1 x2 x3
        have := ih o' M2 x1 x2
        rw [nI_succ i, ← x3] at this
        exact this
      iterate 5 refine hS _ _ _ _ ?_
      refine And.intro (fun h41 => ?_) (fun h41 => ?_)
      · exact (lp_s e2 (show i < cB (M 31 0 0) by omega) (by omega) h41).elim
      · iterate 4 refine hS _ _ _ _ ?_
        refine And.intro (fun h50 => ?_) (fun h50 => ?_)
        · exact (lp_s en (show i < n by omega) (by omega) h50).elim
        · iterate 3 refine hS _ _ _ _ ?_
          refine sp_isNumber (by omega) en hn (by omega) ?_
          rw [e17]
          refine hS _ _ _ _ ?_
          refine And.intro (fun h59 => ?_) (fun h59 => ?_)
          · replace h59 := bI_f h59
            have hz : cellsF M j i = -1000000005 := by rw [← ec]; exact Classical.byContradiction h59
            rw [if_pos hz, if_pos rfl, upd_id] at es
            iterate 2 refine hS _ _ _ _ ?_
            exact go _ M0 _ a1 (by rw [es]; exact a2) (by rw [es]; rfl)
          · replace h59 := bI_t h59
            have hz : ¬ cellsF M j i = -1000000005 := by rw [← ec]; exact h59
            rw [if_neg hz] at es
            iterate 4 refine hS _ _ _ _ ?_
            refine ⟨(by first | assumption | exact vp_in_nI (by simp only [alen]; omega) (by decide)), ?_⟩
            try rw [nI_clamp (by omega)]
            iterate 2 refine hS _ _ _ _ ?_
            rw [e17, ec]
            refine sp_within (by omega) (by decide) ?_
            iterate 7 refine hS _ _ _ _ ?_
            refine ⟨(by first | assumption | exact vp_in_nI (by simp only [alen]; omega) (by decide)), ?_⟩
            try rw [nI_clamp (by omega)]
            iterate 2 refine hS _ _ _ _ ?_
            refine And.intro (fun h91 => ?_) (fun h91 => ?_)
            · have h91' : g.2 (12 + 4 * i) = clamp (cellsF M j i) 0 7 := by rw [← et]; exact h91.symm
              rw [if_pos h91'] at es
              iterate 5 refine hS _ _ _ _ ?_
              refine ⟨(by first | assumption | exact vp_in_nI (by simp only [alen]; omega) (by decide)), ?_⟩
              try rw [nI_clamp (by omega)]
              iterate 4 refine hS _ _ _ _ ?_
              exact go _ _ _ (a1.tr (Fn.mu1 (by omega))) (by rw [es]; exact wr _) (by rw [es]; rfl)
            · have h91' : ¬ g.2 (12 + 4 * i) = clamp (cellsF M j i) 0 7 := by rw [← et]; exact fun z => h91 z.symm
              rw [if_neg h91'] at es
              iterate 6 refine hS _ _ _ _ ?_
              refine ⟨(by first | assumption | exact vp_in_nI (by simp only [alen]; omega) (by decide)), ?_⟩
              try rw [nI_clamp (by omega)]
              iterate 4 refine hS _ _ _ _ ?_
              exact go _ _ _ (a1.tr (Fn.mu1 (by omega))) (by rw [es]; exact wr _) (by rw [es]; exact (nI_succ _).symm)
  obtain ⟨e, rfl⟩ : ∃ e, d = e + 1 := ⟨d - 1, by omega⟩
  refine td_X9_pour ?_
  intro S hS
  iterate 2 refine hS _ _ _ _ ?_
  refine sp_isSheet (by omega) ?_
  refine hS _ _ _ _ ?_
  refine And.intro (fun h4 => ?_) (fun h4 => ?_)
  · replace h4 := bI_t h4
    rw [pourP, itP_t h4] at hV
    obtain ⟨j, hj, rfl⟩ := h4
    rw [nI_clamp (by omega)] at hV
    obtain ⟨r1, r2, r3, ⟨n, hn, r4⟩, r5⟩ := hI.2.2.1 j hj
    rw [r1, r2, r4, nI_clamp (by omega)] at hV
    iterate 4 refine hS _ _ _ _ ?_
    refine ⟨(by first | assumption | exact vp_in_nI (by simp only [alen]; omega) (by decide)), ?_⟩
    try rw [nI_clamp (by omega)]
    iterate 3 refine hS _ _ _ _ ?_
    refine sp_isMissing (by omega) ?_
    refine hS _ _ _ _ ?_
    refine And.intro (fun h21 => ?_) (fun h21 => ?_)
    · replace h21 := bI_f h21
      have hge : ¬ M 16 j 0 0 < 0 := by
        rcases r3 with z | z | z
        · exact absurd z h21
        · rw [z]; decide
        · rw [z]; decide
      rw [if_neg hge] at hV
      subst hV
      iterate 4 refine hS _ _ _ _ ?_
      exact clp j n hj (by omega) r4 (fun k hk => r5 k (by omega)) Q hQ _ hS (by omega)
    · replace h21 := bI_t h21
      rw [h21, if_pos (by decide)] at hV
      subst hV
      iterate 2 refine hS _ _ _ _ ?_
      exact hQ _ Fn.rf hL
  · replace h4 := bI_f h4
    iterate 2 refine hS _ _ _ _ ?_
    rw [pourP, itP_f h4] at hV
    subst hV
    exact hQ _ Fn.rf hL
theorem m_pour {M M1 : Mem} {Q : PQ} {d : Nat} {s : Int32} (hd : 500 ≤ d) (hI : INV M) (f1 : Fn 0 M M1) (hQ : ∀ M2, Fm M1 M2 → M2 31 0 0 = (pourP M s).2 → Q (some (.inl (pourP M s).1)) M2) : Td PR d 205 [.inr (30, 0, 0), .inl s] M1 Q := by
  have hW := hI.wf
  have hb10 := hW.1.1.2.1
  have g31 : M1 31 = M 31 := f1.kd (by decide) (by decide) (by decide) (by decide)
  have g58 : M1 58 = M 58 := f1.kd (by decide) (by decide) (by decide) (by decide)
  have g59 : M1 59 = M 59 := f1.kd (by decide) (by decide) (by decide) (by decide)
  have g60 : M1 60 = M 60 := f1.kd (by decide) (by decide) (by decide) (by decide)
  generalize hV : pourP M s = W at hQ
  obtain ⟨e, rfl⟩ : ∃ e, d = e + 1 := ⟨d - 1, by omega⟩
  refine td_X10_pour ?_
  intro S hS
  have lp : ∀ j n, j < 4 → n ≤ 24 → M 59 0 0 j = nI n → (∀ M2, Fm M1 M2 → M2 31 0 0 = (prF (M 31 0 0) (cellsF M j) (min (cB (M 31 0 0)) n)).2 → Q (some (.inl (nI (prF (M 31 0 0) (cellsF M j) (min (cB (M 31 0 0)) n)).1))) M2) → S 26 [some (.inr (30, 0, 0)), some (.inl (nI j)), some (.inl 0), some (.inl 0), none, none] [] M1 := by
    intro j n hj hn r4 hQ
    have hml := Nat.min_le_left (cB (M 31 0 0)) n
    have hmr := Nat.min_le_right (cB (M 31 0 0)) n
    have hmm : min (cB (M 31 0 0)) n = cB (M 31 0 0) ∨ min (cB (M 31 0 0)) n = n := by
      rcases Nat.le_total (cB (M 31 0 0)) n with z | z
      · exact Or.inl (Nat.min_eq_left z)
      · exact Or.inr (Nat.min_eq_right z)
    generalize min (cB (M 31 0 0)) n = N at *
    refine lp_up (T := fun i => ∀ o4 o5 M0, Fm M1 M0 → M0 31 0 0 = (prF (M 31 0 0) (cellsF M j) i).2 → S 26 [some (.inr (30, 0, 0)), some (.inl (nI j)), some (.inl (nI (prF (M 31 0 0) (cellsF M j) i).1)), some (.inl (nI i)), o4, o5] [] M0) (N := N) ?_ ?_ 0 (Nat.zero_le _) none none M1 Fm.rf (by rw [g31]; rfl)
    · intro o4 o5 M0 a1 a2
      have en : M0 59 0 0 j = nI n := by rw [a1 59 (by decide) (by decide) (by decide) (by decide), g59]; exact r4
      have w := prF_ok (c := cellsF M j) hW N hml
      have e1 : M0 31 0 0 1 = nI (cB (M 31 0 0)) := by rw [a2, w.2.2.1.1]; exact hW.1.1.1
      iterate 5 refine hS _ _ _ _ ?_
      refine ⟨(by first | assumption | exact vp_in_nI (by simp only [alen]; omega) (by decide)), ?_⟩
      try rw [nI_clamp (by omega)]
      refine hS _ _ _ _ ?_
      refine And.intro (fun h33 => ?_) (fun h33 => ?_)
      · iterate 2 refine hS _ _ _ _ ?_
        exact hQ M0 a1 a2
      · have hz : ¬ n ≤ N := fun z => h33 (by rw [show M0 59 0 0 j = _ from en]; exact nI_le z (by omega))
        iterate 5 refine hS _ _ _ _ ?_
        refine ⟨vp_l rfl, ?_⟩
        try rw [show Int32.toNatClampNeg 1 = 1 from rfl]
        refine hS _ _ _ _ ?_
        refine And.intro (fun h43 => ?_) (fun h43 => ?_)
        · iterate 2 refine hS _ _ _ _ ?_
          exact hQ M0 a1 a2
        · have hz2 : ¬ cB (M 31 0 0) ≤ N := fun z => h43 (by rw [show M0 31 0 0 1 = _ from e1]; exact nI_le z (by omega))
          omega
    · intro i hi ih o4 o5 M0 a1 a2
      have en : M0 59 0 0 j = nI n := by rw [a1 59 (by decide) (by decide) (by decide) (by decide), g59]; exact r4
      obtain ⟨w, tx, kp, hle⟩ := prF_ok (c := cellsF M j) hW i (by omega)
      have e1 : M0 31 0 0 1 = nI (cB (M 31 0 0)) := by rw [a2, kp.1]; exact hW.1.1.1
      have e60 : M0 60 0 0 (24 * j + i) = cellsF M j i := by rw [a1 60 (by decide) (by decide) (by decide) (by decide), g60]; rfl
      have es := prF_s (f := M 31 0 0) (c := cellsF M j) (b := i)
      generalize hg : prF (M 31 0 0) (cellsF M j) i = g at *
      have ix : (24 : Int32) * nI j + nI i = nI (24 * j + i) := by
        show nI 24 * nI j + nI i = _
        rw [nI_mul, nI_add]
      have ix2 : (10 : Int32) + 4 * nI i + 2 = nI (12 + 4 * i) := by
        show nI 10 + nI 4 * nI i + nI 2 = _
        rw [nI_mul, nI_add, nI_add]; exact congrArg nI (by omega)
      have go : ∀ o4 o5 v t, v = nI (prF (M 31 0 0) (cellsF M j) (i + 1)).1 → upd g.2 (12 + 4 * i) t = (prF (M 31 0 0) (cellsF M j) (i + 1)).2 → S 26 [some (.inr (30, 0, 0)), some (.inl (nI j)), some (.inl v), some (.inl (nI i + 1)), o4, o5] [] (mu M0 31 0 0 (12 + 4 * i) t) := by
        intro o4 o5 v t x1 x2
        have := ih o4 o5 (mu M0 31 0 0 (12 + 4 * i) t) (a1.tr Fm.mu) (by rw [upd_mu, a2]; exact x2)
        rw [nI_succ i, ← x1] at this
        exact this
      iterate 5 refine hS _ _ _ _ ?_
      refine ⟨(by first | assumption | exact vp_in_nI (by simp only [alen]; omega) (by decide)), ?_⟩
      try rw [nI_clamp (by omega)]
      refine hS _ _ _ _ ?_
      refine And.intro (fun h33 => ?_) (fun h33 => ?_)
      · exact (lp_s en (show i < n by omega) (by omega) h33).elim
      · iterate 5 refine hS _ _ _ _ ?_
        refine ⟨vp_l rfl, ?_⟩
        try rw [show Int32.toNatClampNeg 1 = 1 from rfl]
        refine hS _ _ _ _ ?_
        refine And.intro (fun h43 => ?_) (fun h43 => ?_)
        · exact (lp_s e1 (show i < cB (M 31 0 0) by omega) (by omega) h43).elim
        · iterate 8 refine hS _ _ _ _ ?_
          rw [ix]
          refine ⟨(by first | assumption | exact vp_in_nI (by simp only [alen]; omega) (by decide)), ?_⟩
          rw [nI_clamp (by omega), e60]
          iterate 4 refine hS _ _ _ _ ?_
          refine And.intro (fun h63 => ?_) (fun h63 => ?_)
          · rw [if_neg h63] at es
            iterate 4 refine hS _ _ _ _ ?_
            refine sm_within (by omega) ?_
            iterate 12 refine hS _ _ _ _ ?_
            rw [ix2]
            refine sm_swaps (by omega) (by omega) ?_
            rw [a2]
            iterate 2 refine hS _ _ _ _ ?_
            refine And.intro (fun h102 => ?_) (fun h102 => ?_)
            · rw [if_neg h102] at es
              iterate 5 refine hS _ _ _ _ ?_
              refine go _ _ _ _ ?_ (by rw [es])
              rw [es]
              first | exact (nI_succ _).symm | exact Int32.add_zero _
            · rw [if_pos h102] at es
              iterate 6 refine hS _ _ _ _ ?_
              refine go _ _ _ _ ?_ (by rw [es])
              rw [es]
              first | exact (nI_succ _).symm | exact Int32.add_zero _
          · rw [if_pos h63] at es
            iterate 4 refine hS _ _ _ _ ?_
            refine sm_of2 (by omega) (by omega) ?_
            rw [a2]
            iterate 13 refine hS _ _ _ _ ?_
            rw [ix2]
            refine sm_swaps (by omega) (by omega) ?_
            rw [a2]
            iterate 2 refine hS _ _ _ _ ?_
            refine And.intro (fun h102 => ?_) (fun h102 => ?_)
            · exact absurd rfl h102
            · rw [if_pos h102] at es
              iterate 6 refine hS _ _ _ _ ?_
              exact go _ _ _ _ (by rw [es]; exact Int32.add_zero _) (by rw [es])
  iterate 2 refine hS _ _ _ _ ?_
  refine sm_isSheet (by omega) ?_
  refine hS _ _ _ _ ?_
  refine And.intro (fun h4 => ?_) (fun h4 => ?_)
  · replace h4 := bI_t h4
    rw [pourP, itP_t h4] at hV
    obtain ⟨j, hj, rfl⟩ := h4
    rw [nI_clamp (by omega)] at hV
    obtain ⟨r1, r2, r3, ⟨n, hn, r4⟩, r5⟩ := hI.2.2.1 j hj
    rw [r2, r4, nI_clamp (by omega)] at hV
    iterate 4 refine hS _ _ _ _ ?_
    refine ⟨(by first | assumption | exact vp_in_nI (by simp only [alen]; omega) (by decide)), ?_⟩
    try rw [nI_clamp (by omega)]
    refine hS _ _ _ _ ?_
    refine And.intro (fun h16 => ?_) (fun h16 => ?_)
    · have h16' : ¬ M 58 0 0 j < 0 := by rw [← g58]; exact Int32.not_lt.mpr h16
      rw [if_neg h16'] at hV
      subst hV
      iterate 4 refine hS _ _ _ _ ?_
      exact lp j n hj (by omega) (r2.trans r4) hQ
    · have h16' : M 58 0 0 j < 0 := by rw [← g58]; exact nle_lt h16
      rw [if_pos h16'] at hV
      subst hV
      iterate 2 refine hS _ _ _ _ ?_
      exact hQ _ Fm.rf (by rw [g31])
  · replace h4 := bI_f h4
    iterate 2 refine hS _ _ _ _ ?_
    rw [pourP, itP_f h4] at hV
    subst hV
    exact hQ _ Fm.rf (by rw [g31])
theorem op_pour {s : Int32} : OpOK 99 205 [.inl s] := op_n (fun M => (pourP M s).1) (fun M => (pourP M s).2) (fun M Q d hd hI hQ => c_pour hd hI hQ) (fun M M1 Q d hd hI f1 hQ => m_pour hd hI f1 hQ) (fun M hI => pourP_wf hI)
