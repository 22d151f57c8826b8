-- 55.pure26: deal, nights, pour
def dl1 (f : FA) : FA := addB (drawF (drawF (drawF (drawF f)))) (irem (drawV f) 6) (irem (drawV (drawF f)) 8) (irem (drawV (drawF (drawF f))) 8) (irem (drawV (drawF (drawF (drawF f)))) 8)
def dlF (f : FA) : Nat → FA
  | 0 => f
  | n + 1 => dl1 (dlF f n)
theorem draw_wf {f : FA} (h : WF 10000 f) : WF 10000 (drawF f) := wf_lo h (Or.inl rfl)
theorem dl1_ok {f : FA} (h : WF 10000 f) (hb : cB f < 10) : WF 10000 (dl1 f) ∧ TXE f (dl1 f) ∧ cB (dl1 f) = cB f + 1 := by
  have k4 : KP f (drawF (drawF (drawF (drawF f)))) := ((draw_kp.tr draw_kp).tr draw_kp).tr draw_kp
  have w4 := draw_wf (draw_wf (draw_wf (draw_wf h)))
  have hb4 : cB (drawF (drawF (drawF (drawF f)))) < 10 := by rw [k4.cb]; exact hb
  refine ⟨addB_wf w4 hb4 (rem8 _) (rem8 _) (rem8 _), k4.2.2.2.2.tr (addB_tx hb4), ?_⟩
  unfold dl1
  rw [(addB_cn w4.1.1 hb4).2.1, k4.cb]
theorem dlF_ok {f : FA} (h : WF 10000 f) : ∀ n, cB f + n ≤ 10 → WF 10000 (dlF f n) ∧ TXE f (dlF f n) ∧ cB (dlF f n) = cB f + n := by
  intro n
  induction n with
  | zero => intro _; exact ⟨h, TXE.rf, rfl⟩
  | succ n ih =>
    intro hn
    obtain ⟨a, b, c⟩ := ih (by omega)
    obtain ⟨a', b', c'⟩ := dl1_ok a (by rw [c]; omega)
    exact ⟨a', b.tr b', by show cB (dl1 (dlF f n)) = _; rw [c', c]; rfl⟩
noncomputable def dealP (f : FA) (n : Int32) : Int32 × FA := itP (¬ n < 1 ∧ ¬ 10 < n) (nI (min n.toNatClampNeg (10 - cB f)), dlF f (min n.toNatClampNeg (10 - cB f))) (-1000000001, f)
theorem dealP_wf {f : FA} {n : Int32} (hW : WF 10000 f) : WF 10000 (dealP f n).2 ∧ TXE f (dealP f n).2 := by
  have := hW.1.1.2.1
  by_cases h : ¬ n < 1 ∧ ¬ 10 < n
  · rw [dealP, itP_t h]
    obtain ⟨a, b, c⟩ := dlF_ok hW (min n.toNatClampNeg (10 - cB f)) (by have := Nat.min_le_right n.toNatClampNeg (10 - cB f); omega)
    exact ⟨a, b⟩
  · rw [dealP, itP_f h]
    exact ⟨hW, TXE.rf⟩
theorem nights_2 {K : Nat} {f : FA} (hN : NM K f) {j : Nat} (hj : f 2 = nI j) : ∀ n, nightsF f n 2 = nI (j + n) := by
  intro n
  induction n with
  | zero => exact hj
  | succ n ih =>
    show nightF (nightsF f n) 2 = _
    rw [night_2 (nights_nm hN n).1, ih, ← nI_succ]
    rfl
def ncF (f : FA) (n : Nat) : Nat := min n (9999 - (f 2).toNatClampNeg)
noncomputable def nightsP (f : FA) (n : Int32) : Int32 × FA := itP (¬ n < 1 ∧ ¬ 100 < n) (nightsF f (ncF f n.toNatClampNeg) 5 - f 5, nightsF f (ncF f n.toNatClampNeg)) (-1000000001, f)
theorem nightsP_wf {f : FA} {n : Int32} (hW : WF 10000 f) : WF 10000 (nightsP f n).2 ∧ TXE f (nightsP f n).2 := by
  by_cases h : ¬ n < 1 ∧ ¬ 100 < n
  · rw [nightsP, itP_t h]
    obtain ⟨j, hj, e⟩ := hW.1.2.2
    have w := nights_wf hW (ncF f n.toNatClampNeg)
    have hc : ncF f n.toNatClampNeg ≤ 9999 - j := by
      unfold ncF
      rw [e, nI_clamp (by omega)]
      exact Nat.min_le_right _ _
    refine ⟨⟨⟨w.1.1, w.1.2.1, ⟨j + ncF f n.toNatClampNeg, by omega, nights_2 hW.1 e _⟩⟩, w.2⟩, (nights_kn hW.1 _).2.2.2⟩
  · rw [nightsP, itP_f h]
    exact ⟨hW, TXE.rf⟩
theorem LL.drw {M : Mem} {l : Nat} {f : FA} (h : LL M l f) : LL (mu M 1 l 0 11 (M 1 l 0 11 * 1103515245 + 12345)) l (drawF f) ∧ ushr8 (M 1 l 0 11 * 1103515245 + 12345) = drawV f := by
  have := h.w11 (v := M 1 l 0 11 * 1103515245 + 12345)
  rw [h.z] at this ⊢
  exact ⟨this, rfl⟩
theorem sp_drawL {d l : Nat} {M : Mem} {Q : PQ} {f : FA} (hd : 1 ≤ d) (hL : LL M l f) (hQ : ∀ M1, Fn l M M1 → LL M1 l (drawF f) → Q (some (.inl (drawV f))) M1) : Td PR d 10 [.inr (1, l, 0)] M Q := by
  obtain ⟨a, b⟩ := hL.drw
  refine sp_draw hd ?_
  rw [b]
  exact hQ _ (Fn.mu1 (by omega)) a
theorem c_deal {M : Mem} {Q : PQ} {d : Nat} {n : Int32} (hd : 500 ≤ d) (hI : INV M) (hQ : ∀ M1, Fn 0 M M1 → LL M1 0 (dealP (M 31 0 0) n).2 → Q (some (.inl (dealP (M 31 0 0) n).1)) M1) : Td PR d 72 [.inr (0, 0, 0), .inl n] M Q := by
  have hL := hI.ll
  have hC := hI.cn
  have hW := hI.wf
  have hb10 := hL.b10
  have hp9 := hL.p9
  have ht14 := hL.t14
  generalize hV : dealP (M 31 0 0) n = W at hQ
  have clp : ∀ k, k < 11 → ∀ Q : PQ, (∀ M1, Fn 0 M M1 → LL M1 0 (dlF (M 31 0 0) (min k (10 - cB (M 31 0 0)))) → Q (some (.inl (nI (min k (10 - cB (M 31 0 0)))))) M1) → ∀ {e : Nat} (S : CF), Clo (Td PR e) (some .int) T_X9_deal Q S → 5 ≤ e → S 16 [some (.inr (0, 0, 0)), some (.inl (nI k)), some (.inl 0), none, none, none, none] [] M := by
    intro k hk Q hQ e S hS he
    have hmr := Nat.min_le_right k (10 - cB (M 31 0 0))
    have hml := Nat.min_le_left k (10 - cB (M 31 0 0))
    have hmm : min k (10 - cB (M 31 0 0)) = k ∨ min k (10 - cB (M 31 0 0)) = 10 - cB (M 31 0 0) := by
      rcases Nat.le_total k (10 - cB (M 31 0 0)) with z | z
      · exact Or.inl (Nat.min_eq_left z)
      · exact Or.inr (Nat.min_eq_right z)
    generalize min k (10 - cB (M 31 0 0)) = c at *
    refine lp_up (T := fun i => ∀ o3 o4 o5 o6 M0, Fn 0 M M0 → LL M0 0 (dlF (M 31 0 0) i) → S 16 [some (.inr (0, 0, 0)), some (.inl (nI k)), some (.inl (nI i)), o3, o4, o5, o6] [] M0) (N := c) ?_ ?_ 0 (Nat.zero_le _) none none none none M Fn.rf hL
    · intro o3 o4 o5 o6 M0 a1 a2
      have e2 := a2.bc
      rw [(dlF_ok hW c (by omega)).2.2] at e2
      iterate 3 refine hS _ _ _ _ ?_
      refine And.intro (fun h18 => ?_) (fun h18 => ?_)
      · iterate 2 refine hS _ _ _ _ ?_
        exact hQ M0 a1 a2
      · have hz : ¬ k ≤ c := fun z => h18 (nI_le z (by omega))
        iterate 5 refine hS _ _ _ _ ?_
        refine And.intro (fun h30 => ?_) (fun h30 => ?_)
        · iterate 2 refine hS _ _ _ _ ?_
          exact hQ M0 a1 a2
        · exact absurd (show nI 10 ≤ M0 1 0 0 2 by rw [e2]; exact nI_le (by omega) (by omega)) h30
    · intro i hi ih o3 o4 o5 o6 M0 a0 l0
      obtain ⟨w, tx, cb⟩ := dlF_ok hW i (by omega)
      have e2 := l0.bc
      rw [cb] at e2
      generalize hg : dlF (M 31 0 0) i = g at *
      have cb4 : cB (drawF (drawF (drawF (drawF g)))) < 10 := by rw [(((draw_kp.tr draw_kp).tr draw_kp).tr draw_kp).cb]; omega
      rw [show dlF (M 31 0 0) (i + 1) = dl1 (dlF (M 31 0 0) i) from rfl, hg, nI_succ i] at ih
      iterate 3 refine hS _ _ _ _ ?_
      refine And.intro (fun h18 => ?_) (fun h18 => ?_)
      · exact (lp_s rfl (show i < k by omega) (by omega) h18).elim
      · iterate 5 refine hS _ _ _ _ ?_
        refine And.intro (fun h30 => ?_) (fun h30 => ?_)
        · exact absurd (show nI 10 ≤ M0 1 0 0 2 from h30) (by rw [e2]; exact nI_ge (by omega) (by decide))
        · iterate 3 refine hS _ _ _ _ ?_
          refine sp_drawL (by omega) l0 (fun M1 f1 a1 => ?_)
          iterate 2 refine hS _ _ _ _ ?_
          refine ⟨by decide, ?_⟩
          iterate 4 refine hS _ _ _ _ ?_
          refine sp_drawL (by omega) a1 (fun M2 f2 a2 => ?_)
          iterate 2 refine hS _ _ _ _ ?_
          refine ⟨by decide, ?_⟩
          iterate 4 refine hS _ _ _ _ ?_
          refine sp_drawL (by omega) a2 (fun M3 f3 a3 => ?_)
          iterate 2 refine hS _ _ _ _ ?_
          refine ⟨by decide, ?_⟩
          iterate 4 refine hS _ _ _ _ ?_
          refine sp_drawL (by omega) a3 (fun M4 f4 a4 => ?_)
          iterate 2 refine hS _ _ _ _ ?_
          refine ⟨by decide, ?_⟩
          iterate 8 refine hS _ _ _ _ ?_
          refine sp_addBed (by omega) a4 cb4 (fun M5 g5 l5 => ?_)
          iterate 3 refine hS _ _ _ _ ?_
          exact ih _ _ _ _ M5 ((((a0.tr f1).tr f2).tr f3).tr (f4.tr g5)) l5
  obtain ⟨e, rfl⟩ : ∃ e, d = e + 1 := ⟨d - 1, by omega⟩
  refine td_X9_deal ?_
  intro S hS
  iterate 3 refine hS _ _ _ _ ?_
  refine And.intro (fun h2 => ?_) (fun h2 => ?_)
  · iterate 2 refine hS _ _ _ _ ?_
    rw [dealP, itP_f (fun z => z.1 h2)] at hV
    subst hV
    exact hQ _ Fn.rf hL
  · iterate 3 refine hS _ _ _ _ ?_
    refine And.intro (fun h8 => ?_) (fun h8 => ?_)
    · rw [dealP, itP_t ⟨h2, Int32.not_lt.mpr h8⟩] at hV
      obtain ⟨k, hk, rfl⟩ : ∃ k, k < 11 ∧ n = nI k := (in_bd1 (n := 10) (by omega)).mp ⟨fun z => h2 (Int32.lt_trans z (by decide)), Int32.not_lt.mpr h8⟩
      rw [nI_clamp (by omega)] at hV
      subst hV
      iterate 2 refine hS _ _ _ _ ?_
      exact clp k (by omega) Q hQ _ hS (by omega)
    · iterate 2 refine hS _ _ _ _ ?_
      rw [dealP, itP_f (fun z => z.2 (nle_lt h8))] at hV
      subst hV
      exact hQ _ Fn.rf hL
theorem m_deal {M : Mem} {Q : PQ} {d : Nat} {n : Int32} (hd : 500 ≤ d) (hW : WF 10000 (M 31 0 0)) (hQ : ∀ M2, Fm M M2 → M2 31 0 0 = (dealP (M 31 0 0) n).2 → Q (some (.inl (dealP (M 31 0 0) n).1)) M2) : Td PR d 144 [.inr (30, 0, 0), .inl n] M Q := by
  have hC := hW.1.1
  have hb10 := hC.2.1
  have hp9 := hC.2.2.2.1
  have ht14 := hC.2.2.2.2.2
  generalize hV : dealP (M 31 0 0) n = W at hQ
  have mlp : ∀ k, k < 11 → ∀ Q : PQ, (∀ M1, Fm M M1 → M1 31 0 0 = dlF (M 31 0 0) (min k (10 - cB (M 31 0 0))) → Q (some (.inl (nI (min k (10 - cB (M 31 0 0)))))) M1) → ∀ {e : Nat} (S : CF), Clo (Td PR e) (some .int) T_X10_deal Q S → 5 ≤ e → S 15 [some (.inr (30, 0, 0)), some (.inl (nI k)), some (.inl 0), none, none, none, none] [] M := by
    intro k hk Q hQ e S hS he
    have hmr := Nat.min_le_right k (10 - cB (M 31 0 0))
    have hml := Nat.min_le_left k (10 - cB (M 31 0 0))
    have hmm : min k (10 - cB (M 31 0 0)) = k ∨ min k (10 - cB (M 31 0 0)) = 10 - cB (M 31 0 0) := by
      rcases Nat.le_total k (10 - cB (M 31 0 0)) with z | z
      · exact Or.inl (Nat.min_eq_left z)
      · exact Or.inr (Nat.min_eq_right z)
    generalize min k (10 - cB (M 31 0 0)) = c at *
    refine lp_up (T := fun i => ∀ o3 o4 o5 o6 M0, Fm M M0 → M0 31 0 0 = dlF (M 31 0 0) i → S 15 [some (.inr (30, 0, 0)), some (.inl (nI k)), some (.inl (nI i)), o3, o4, o5, o6] [] M0) (N := c) ?_ ?_ 0 (Nat.zero_le _) none none none none M Fm.rf rfl
    · intro o3 o4 o5 o6 M0 a1 a2
      have w := dlF_ok hW c (by omega)
      have e2 : M0 31 0 0 1 = nI (cB (M 31 0 0) + c) := by rw [a2, w.1.1.1.1, w.2.2]
      iterate 3 refine hS _ _ _ _ ?_
      refine And.intro (fun h17 => ?_) (fun h17 => ?_)
      · iterate 2 refine hS _ _ _ _ ?_
        exact hQ M0 a1 a2
      · have hz : ¬ k ≤ c := fun z => h17 (nI_le z (by omega))
        iterate 4 refine hS _ _ _ _ ?_
        refine ⟨vp_l rfl, ?_⟩
        try rw [show Int32.toNatClampNeg 1 = 1 from rfl]
        iterate 2 refine hS _ _ _ _ ?_
        refine And.intro (fun h28 => ?_) (fun h28 => ?_)
        · iterate 2 refine hS _ _ _ _ ?_
          exact hQ M0 a1 a2
        · exact absurd (show nI 10 ≤ M0 31 0 0 1 by rw [e2]; exact nI_le (by omega) (by omega)) h28
    · intro i hi ih o3 o4 o5 o6 M0 a1 a2
      obtain ⟨w, tx, cb⟩ := dlF_ok hW i (by omega)
      have e2 : M0 31 0 0 1 = nI (cB (M 31 0 0) + i) := by rw [a2, w.1.1.1, cb]
      generalize hg : dlF (M 31 0 0) i = g at *
      have cb4 : cB (drawF (drawF (drawF (drawF g)))) < 10 := by rw [(((draw_kp.tr draw_kp).tr draw_kp).tr draw_kp).cb]; omega
      have cn4 : CN (drawF (drawF (drawF (drawF g)))) := (((draw_kp.tr draw_kp).tr draw_kp).tr draw_kp).cn w.1.1
      rw [show dlF (M 31 0 0) (i + 1) = dl1 (dlF (M 31 0 0) i) from rfl, hg, nI_succ i] at ih
      iterate 3 refine hS _ _ _ _ ?_
      refine And.intro (fun h17 => ?_) (fun h17 => ?_)
      · exact (lp_s rfl (show i < k by omega) (by omega) h17).elim
      · iterate 4 refine hS _ _ _ _ ?_
        refine ⟨vp_l rfl, ?_⟩
        try rw [show Int32.toNatClampNeg 1 = 1 from rfl]
        iterate 2 refine hS _ _ _ _ ?_
        refine And.intro (fun h28 => ?_) (fun h28 => ?_)
        · exact absurd (show nI 10 ≤ M0 31 0 0 1 from h28) (by rw [e2]; exact nI_ge (by omega) (by decide))
        · iterate 2 refine hS _ _ _ _ ?_
          refine sm_draw (by omega) ?_
          rw [a2]
          generalize hM1 : mr M0 31 0 0 (drawF g) = M1
          have m1 : M1 31 0 0 = drawF g := by rw [← hM1, mr_same]
          have f1 : Fm M0 M1 := fun k hk _ _ _ => by rw [← hM1]; exact mr_k hk
          iterate 2 refine hS _ _ _ _ ?_
          refine ⟨by decide, ?_⟩
          iterate 3 refine hS _ _ _ _ ?_
          refine sm_draw (by omega) ?_
          rw [m1]
          generalize hM2 : mr M1 31 0 0 (drawF (drawF g)) = M2
          have m2 : M2 31 0 0 = drawF (drawF g) := by rw [← hM2, mr_same]
          have f2 : Fm M1 M2 := fun k hk _ _ _ => by rw [← hM2]; exact mr_k hk
          iterate 2 refine hS _ _ _ _ ?_
          refine ⟨by decide, ?_⟩
          iterate 3 refine hS _ _ _ _ ?_
          refine sm_draw (by omega) ?_
          rw [m2]
          generalize hM3 : mr M2 31 0 0 (drawF (drawF (drawF g))) = M3
          have m3 : M3 31 0 0 = drawF (drawF (drawF g)) := by rw [← hM3, mr_same]
          have f3 : Fm M2 M3 := fun k hk _ _ _ => by rw [← hM3]; exact mr_k hk
          iterate 2 refine hS _ _ _ _ ?_
          refine ⟨by decide, ?_⟩
          iterate 7 refine hS _ _ _ _ ?_
          refine sm_draw (by omega) ?_
          rw [m3]
          generalize hM4 : mr M3 31 0 0 (drawF (drawF (drawF (drawF g)))) = M4
          have m4 : M4 31 0 0 = drawF (drawF (drawF (drawF g))) := by rw [← hM4, mr_same]
          have f4 : Fm M3 M4 := fun k hk _ _ _ => by rw [← hM4]; exact mr_k hk
          iterate 2 refine hS _ _ _ _ ?_
          refine ⟨by decide, ?_⟩
          refine hS _ _ _ _ ?_
          refine sm_comes (by omega) (by rw [m4]; exact cn4) (by rw [m4]; exact cb4) (fun M5 g5 l5 => ?_)
          rw [m4] at l5
          iterate 3 refine hS _ _ _ _ ?_
          exact ih _ _ _ _ M5 ((((a1.tr f1).tr f2).tr f3).tr (f4.tr g5)) l5
  obtain ⟨e, rfl⟩ : ∃ e, d = e + 1 := ⟨d - 1, by omega⟩
  refine td_X10_deal ?_
  intro S hS
  iterate 4 refine hS _ _ _ _ ?_
  refine sm_in (by omega) ?_
  refine hS _ _ _ _ ?_
  refine And.intro (fun h7 => ?_) (fun h7 => ?_)
  · replace h7 := bI_t h7
    rw [dealP, itP_t h7] at hV
    obtain ⟨k, hk, rfl⟩ : ∃ k, k < 11 ∧ n = nI k := (in_bd1 (n := 10) (by omega)).mp ⟨fun z => h7.1 (Int32.lt_trans z (by decide)), h7.2⟩
    rw [nI_clamp (by omega)] at hV
    subst hV
    iterate 2 refine hS _ _ _ _ ?_
    exact mlp k (by omega) Q hQ _ hS (by omega)
  · replace h7 := bI_f h7
    iterate 2 refine hS _ _ _ _ ?_
    rw [dealP, itP_f (fun z => h7 z)] at hV
    subst hV
    exact hQ _ Fm.rf rfl
theorem op_deal {n : Int32} : OpOK 72 144 [.inl n] := op_n (fun M => (dealP (M 31 0 0) n).1) (fun M => (dealP (M 31 0 0) n).2) (fun M Q d hd hI hQ => c_deal hd hI hQ) (fun M M1 Q d hd hI f1 hQ => by
    have e : M1 31 0 0 = M 31 0 0 := by rw [f1.kd (by decide) (by decide) (by decide) (by decide)]
    rw [← e] at hQ
    exact m_deal hd (by rw [e]; exact hI.wf) hQ) (fun M hI => dealP_wf hI.wf)
theorem c_nights {M : Mem} {Q : PQ} {d : Nat} {n : Int32} (hd : 500 ≤ d) (hI : INV M) (hQ : ∀ M1, Fn 0 M M1 → LL M1 0 (nightsP (M 31 0 0) n).2 → Q (some (.inl (nightsP (M 31 0 0) n).1)) M1) : Td PR d 78 [.inr (0, 0, 0), .inl n] M Q := by
  have hL := hI.ll
  have hC := hI.cn
  have hW := hI.wf
  have hb10 := hL.b10
  have hp9 := hL.p9
  have ht14 := hL.t14
  generalize hV : nightsP (M 31 0 0) n = W at hQ
  have clp : ∀ k j, k < 101 → j < 10000 → ∀ Q : PQ, (∀ M1, Fn 0 M M1 → LL M1 0 (nightsF (M 31 0 0) (min k (9999 - j))) → Q (some (.inl (nightsF (M 31 0 0) (min k (9999 - j)) 5 - M 31 0 0 5))) M1) → ∀ {e : Nat} (S : CF), Clo (Td PR e) (some .int) T_X9_nights Q S → 10 ≤ e → S 41 [some (.inr (0, 0, 0)), some (.inl (nI k)), some (.inl (M 1 0 0 6)), some (.inl (if 9999 - nI j < nI k then 9999 - nI j else nI k)), some (.inl 0)] [] M := by
    intro k j hk hj Q hQ e S hS he
    have es : (9999 : Int32) - nI j = nI (9999 - j) := nI_sub (a := 9999) (by omega)
    have ec : (if nI (9999 - j) < nI k then nI (9999 - j) else nI k) = nI (min k (9999 - j)) := by
      by_cases z : 9999 - j < k
      · rw [if_pos (nI_lt z (by omega)), Nat.min_eq_right (by omega)]
      · rw [if_neg (nI_nlt (by omega) (by omega)), Nat.min_eq_left (by omega)]
    rw [es, ec]
    have hml := Nat.min_le_left k (9999 - j)
    generalize min k (9999 - j) = c at *
    refine lp_up (T := fun i => ∀ M0, Fn 0 M M0 → LL M0 0 (nightsF (M 31 0 0) i) → S 41 [some (.inr (0, 0, 0)), some (.inl (nI k)), some (.inl (M 1 0 0 6)), some (.inl (nI c)), some (.inl (nI i))] [] M0) (N := c) ?_ ?_ 0 (Nat.zero_le _) M Fn.rf hL
    · intro M0 a1 a2
      have es5 := a2.slept
      have e6 := hL.slept
      iterate 3 refine hS _ _ _ _ ?_
      refine And.intro (fun h44 => ?_) (fun h44 => ?_)
      · iterate 6 refine hS _ _ _ _ ?_
        refine qv (hQ M0 a1 a2) ?_
        show _ = M0 1 0 0 6 - M 1 0 0 6
        rw [es5, e6]
      · exact (lp_x rfl h44).elim
    · intro i hi ih M0 a1 a2
      rw [nI_succ i] at ih
      iterate 3 refine hS _ _ _ _ ?_
      refine And.intro (fun h44 => ?_) (fun h44 => ?_)
      · exact (lp_s rfl hi (by omega) h44).elim
      · iterate 3 refine hS _ _ _ _ ?_
        refine sp_passNight (by omega) a2 ((a1.tx hI.tx).cg (nights_kn hI.nm i).2.2.2 rfl rfl) (nights_wf hI.wf i).2.1 (fun M2 b1 b2 => ?_)
        iterate 2 refine hS _ _ _ _ ?_
        exact ih M2 (a1.tr b1) b2
  obtain ⟨e, rfl⟩ : ∃ e, d = e + 1 := ⟨d - 1, by omega⟩
  refine td_X9_nights ?_
  intro S hS
  iterate 3 refine hS _ _ _ _ ?_
  refine And.intro (fun h2 => ?_) (fun h2 => ?_)
  · iterate 2 refine hS _ _ _ _ ?_
    rw [nightsP, itP_f (fun z => z.1 h2)] at hV
    subst hV
    exact hQ _ Fn.rf hL
  · iterate 3 refine hS _ _ _ _ ?_
    refine And.intro (fun h8 => ?_) (fun h8 => ?_)
    · rw [nightsP, itP_t ⟨h2, Int32.not_lt.mpr h8⟩] at hV
      obtain ⟨k, hk, rfl⟩ : ∃ k, k < 101 ∧ n = nI k := (in_bd1 (n := 100) (by omega)).mp ⟨fun z => h2 (Int32.lt_trans z (by decide)), Int32.not_lt.mpr h8⟩
      obtain ⟨j, hj, ej⟩ := hI.wf.1.2.2
      have hcx : ncF (M 31 0 0) k = min k (9999 - j) := by unfold ncF; rw [ej, nI_clamp (by omega)]
      rw [nI_clamp (by omega), hcx] at hV
      subst hV
      iterate 11 refine hS _ _ _ _ ?_
      rw [show M 1 0 0 10 = nI j from hL.night.trans ej]
      iterate 3 refine hS _ _ _ _ ?_
      exact clp k j (by omega) (by omega) Q hQ _ hS (by omega)
    · iterate 2 refine hS _ _ _ _ ?_
      rw [nightsP, itP_f (fun z => z.2 (nle_lt h8))] at hV
      subst hV
      exact hQ _ Fn.rf hL
theorem m_nights {M : Mem} {Q : PQ} {d : Nat} {n : Int32} (hd : 500 ≤ d) (hW : WF 10000 (M 31 0 0)) (hQ : ∀ M2, Fm M M2 → M2 31 0 0 = (nightsP (M 31 0 0) n).2 → Q (some (.inl (nightsP (M 31 0 0) n).1)) M2) : Td PR d 158 [.inr (30, 0, 0), .inl n] M Q := by
  have hC := hW.1.1
  have hb10 := hC.2.1
  have hp9 := hC.2.2.2.1
  have ht14 := hC.2.2.2.2.2
  generalize hV : nightsP (M 31 0 0) n = W at hQ
  obtain ⟨e, rfl⟩ : ∃ e, d = e + 1 := ⟨d - 1, by omega⟩
  refine td_X10_nights ?_
  intro S hS
  iterate 4 refine hS _ _ _ _ ?_
  refine sm_in (by omega) ?_
  refine hS _ _ _ _ ?_
  refine And.intro (fun h7 => ?_) (fun h7 => ?_)
  · replace h7 := bI_t h7
    rw [nightsP, itP_t h7] at hV
    obtain ⟨k, hk, rfl⟩ : ∃ k, k < 101 ∧ n = nI k := (in_bd1 (n := 100) (by omega)).mp ⟨fun z => h7.1 (Int32.lt_trans z (by decide)), h7.2⟩
    obtain ⟨j, hj, ej⟩ := hW.1.2.2
    have hcx : ncF (M 31 0 0) k = min k (9999 - j) := by unfold ncF; rw [ej, nI_clamp (by omega)]
    rw [nI_clamp (by omega), hcx] at hV
    subst hV
    have es : (9999 : Int32) - nI j = nI (9999 - j) := nI_sub (a := 9999) (by omega)
    have ec : clamp (nI (9999 - j)) 0 (nI k) = nI (min k (9999 - j)) := by
      unfold clamp
      rw [if_neg (nI_pos (by omega))]
      by_cases z : k < 9999 - j
      · rw [if_pos (nI_lt z (by omega)), Nat.min_eq_left (by omega)]
      · rw [if_neg (nI_nlt (by omega) (by omega)), Nat.min_eq_right (by omega)]
    have hml := Nat.min_le_left k (9999 - j)
    iterate 4 refine hS _ _ _ _ ?_
    refine ⟨vp_l rfl, ?_⟩
    try rw [show Int32.toNatClampNeg 5 = 5 from rfl]
    iterate 7 refine hS _ _ _ _ ?_
    refine ⟨vp_l rfl, ?_⟩
    rw [show M 31 0 0 (Int32.toNatClampNeg 2) = nI j from ej]
    iterate 4 refine hS _ _ _ _ ?_
    rw [es]
    refine sm_within (by omega) ?_
    rw [ec]
    refine hS _ _ _ _ ?_
    refine sm_goesOn (K := 10000) (by omega) hW.1 (by omega) (fun M2 f2 e2 => ?_)
    iterate 4 refine hS _ _ _ _ ?_
    refine ⟨vp_l rfl, ?_⟩
    try rw [show Int32.toNatClampNeg 5 = 5 from rfl]
    iterate 3 refine hS _ _ _ _ ?_
    refine qv (hQ M2 f2 e2) ?_
    show _ = M2 31 0 0 5 - M 31 0 0 5
    rw [e2]
  · replace h7 := bI_f h7
    iterate 2 refine hS _ _ _ _ ?_
    rw [nightsP, itP_f (fun z => h7 z)] at hV
    subst hV
    exact hQ _ Fm.rf rfl
theorem op_nights {n : Int32} : OpOK 78 158 [.inl n] := op_n (fun M => (nightsP (M 31 0 0) n).1) (fun M => (nightsP (M 31 0 0) n).2) (fun M Q d hd hI hQ => c_nights hd hI hQ) (fun M M1 Q d hd hI f1 hQ => by
    have e : M1 31 0 0 = M 31 0 0 := by rw [f1.kd (by decide) (by decide) (by decide) (by decide)]
    rw [← e] at hQ
    exact m_nights hd (by rw [e]; exact hI.wf) hQ) (fun M hI => nightsP_wf hI.wf)
