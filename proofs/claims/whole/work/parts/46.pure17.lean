-- 46.pure17: the class's lands: becoming as another, thoughts, new beds and folk; rows
section W17
variable {d l b p K : Nat} {M : Mem} {Q : PQ} {f : FA}
/-- only a land is touched -/
def Fl (l : Nat) (M M' : Mem) : Prop := ∀ k i, ¬ ((k = 1 ∨ k = 3 ∨ k = 5) ∧ i = l) → M' k i = M k i
theorem Fl.fn {l : Nat} {M M' : Mem} (h : Fl l M M') : Fn l M M' := fun k i _ b => h k i b
theorem Fl.tr {l : Nat} {M M' M'' : Mem} (h : Fl l M M') (h' : Fl l M' M'') : Fl l M M'' := fun k i b => (h' k i b).trans (h k i b)
theorem Fl.mu1 {l : Nat} {M : Mem} {k j s : Nat} {v : Int32} (h : k = 1 ∨ k = 3 ∨ k = 5) : Fl l M (mu M k l j s v) := fun k' i b => by
  unfold mu
  exact mr_out (fun q => b ⟨by rw [q.1]; exact h, q.2⟩)
theorem sp_landAs {l' : Nat} (hd : 2 ≤ d) (hne : l' ≠ l) (hL : LL M l' f) (hQ : ∀ M', Fl l M M' → LL M' l f → Q none M') : Td PR d 7 [.inr (1, l, 0), .inr (1, l', 0)] M Q := by
  have hp9 := hL.p9
  have hb10 := hL.b10
  have o1 : ∀ M', Fl l M M' → M' 1 l' = M 1 l' := fun M' h => h 1 l' (fun z => hne z.2)
  have o3 : ∀ M', Fl l M M' → M' 3 l' = M 3 l' := fun M' h => h 3 l' (fun z => hne z.2)
  have o5 : ∀ M', Fl l M M' → M' 5 l' = M 5 l' := fun M' h => h 5 l' (fun z => hne z.2)
  obtain ⟨e, rfl⟩ : ∃ e, d = e + 1 := ⟨d - 1, by omega⟩
  refine td_X1_becomeAs ?_
  intro S hS
  have l3 : ∀ M', Fl l M M' → M' 1 l 0 2 = nI (cB f) → M' 1 l 0 4 = nI (cP f) → (∀ b, b < cB f → M' 3 l b 0 = f (10 + 4 * b) ∧ M' 3 l b 1 = f (11 + 4 * b) ∧ M' 3 l b 2 = f (12 + 4 * b) ∧ M' 3 l b 3 = f (13 + 4 * b)) → (∀ b, b < cP f → M' 5 l b 0 = f (50 + 4 * b) ∧ M' 5 l b 1 = f (51 + 4 * b) ∧ M' 5 l b 2 = f (52 + 4 * b) ∧ M' 5 l b 3 = f (53 + 4 * b)) → ∀ o, S 78 [some (.inr (1, l, 0)), some (.inr (1, l', 0)), o] [] M' := by
    intro M' a1 a2 a4 a3 a5 o
    have g5 := hL.carry
    have g6 := hL.slept
    have g7 := hL.awake
    have g8 := hL.lost
    have g9 := hL.carried
    have g10 := hL.night
    have g11 := hL.z
    have g12 := hL.tc
    have c12 := hL.1.2.2.2.2.1
    have c1 := hL.1.1
    have c4 := hL.1.2.2.1
    rw [← o1 M' a1] at g5 g6 g7 g8 g9 g10 g11 g12
    have rd : ∀ (M0 : Mem) s v, mu M0 1 l 0 s v 1 l' = M0 1 l' := fun M0 s v => mr_out (fun z => hne z.2)
    iterate 33 refine hS _ _ _ _ ?_
    refine hQ _ (((((((((a1.tr (Fl.mu1 (by omega))).tr (Fl.mu1 (by omega))).tr (Fl.mu1 (by omega))).tr (Fl.mu1 (by omega))).tr (Fl.mu1 (by omega))).tr (Fl.mu1 (by omega))).tr (Fl.mu1 (by omega))).tr (Fl.mu1 (by omega)))) ?_
    simp only [rd]
    refine ⟨hL.1, ⟨?_, ?_, ?_, ?_, ?_, ?_, ?_, ?_, ?_, ?_⟩, a3, a5⟩
    all_goals (simp [mu, mr, upd, *])
  have l2 : ∀ M', Fl l M M' → M' 1 l 0 2 = nI (cB f) → M' 1 l 0 4 = nI (cP f) → (∀ b, b < cB f → M' 3 l b 0 = f (10 + 4 * b) ∧ M' 3 l b 1 = f (11 + 4 * b) ∧ M' 3 l b 2 = f (12 + 4 * b) ∧ M' 3 l b 3 = f (13 + 4 * b)) → S 49 [some (.inr (1, l, 0)), some (.inr (1, l', 0)), some (.inl 0)] [] M' := by
    intro M' a1 a2 a4 a3
    refine lp_up (T := fun i => ∀ M2, Fl l M M2 → M2 1 l 0 2 = nI (cB f) → M2 1 l 0 4 = nI (cP f) → M2 3 l = M' 3 l → (∀ b, b < i → M2 5 l b 0 = f (50 + 4 * b) ∧ M2 5 l b 1 = f (51 + 4 * b) ∧ M2 5 l b 2 = f (52 + 4 * b) ∧ M2 5 l b 3 = f (53 + 4 * b)) → S 49 [some (.inr (1, l, 0)), some (.inr (1, l', 0)), some (.inl (nI i))] [] M2) (N := cP f) ?_ ?_ 0 (Nat.zero_le _) M' a1 a2 a4 rfl (fun b h => absurd h (Nat.not_lt_zero _))
    · intro M2 b1 b2 b4 b3 b5
      iterate 4 refine hS _ _ _ _ ?_
      refine And.intro (fun h54 => ?_) (fun h54 => ?_)
      · exact l3 M2 b1 b2 b4 (by rw [b3]; exact a3) b5 _
      · exact (lp_x b4 h54).elim
    · intro i hi ih M2 b1 b2 b4 b3 b5
      have q := hL.2.2.2 i hi
      rw [← o5 M2 b1] at q
      iterate 4 refine hS _ _ _ _ ?_
      refine And.intro (fun h54 => ?_) (fun h54 => ?_)
      · exact (lp_s b4 hi (by omega) h54).elim
      · iterate 4 refine hS _ _ _ _ ?_
        refine ⟨(by first | assumption | exact vp_in_nI (by simp only [alen]; omega) (by decide)), ?_⟩
        try rw [nI_clamp (by omega)]
        iterate 4 refine hS _ _ _ _ ?_
        refine ⟨(by first | assumption | exact vp_in_nI (by simp only [alen]; omega) (by decide)), ?_⟩
        try rw [nI_clamp (by omega)]
        refine hS _ _ _ _ ?_
        refine sp_oneAs (by omega) (fun z => hne z.1) (fun M3 c0 c1 c2 c3 c4 => ?_)
        iterate 2 refine hS _ _ _ _ ?_
        have := ih M3 (b1.tr (fun k i' z => funext fun j => c4 k i' j (fun y => z ⟨by omega, y.2.1⟩))) (by rw [c4 1 l 0 (by omega)]; exact b2) (by rw [c4 1 l 0 (by omega)]; exact b4) ((funext fun j => c4 3 l j (by omega)).trans b3) (fun b hb => by
          by_cases z : b = i
          · subst z
            rw [c0, c1, c2, c3]
            exact q
          · rw [c4 5 l b (fun y => z y.2.2)]
            exact b5 b (by omega))
        rw [nI_succ] at this
        exact this
  have l1 : ∀ M', Fl l M M' → M' 1 l 0 2 = nI (cB f) → S 10 [some (.inr (1, l, 0)), some (.inr (1, l', 0)), some (.inl 0)] [] M' := by
    intro M' a1 a2
    refine lp_up (T := fun i => ∀ M2, Fl l M M2 → M2 1 l 0 2 = nI (cB f) → (∀ b, b < i → M2 3 l b 0 = f (10 + 4 * b) ∧ M2 3 l b 1 = f (11 + 4 * b) ∧ M2 3 l b 2 = f (12 + 4 * b) ∧ M2 3 l b 3 = f (13 + 4 * b)) → S 10 [some (.inr (1, l, 0)), some (.inr (1, l', 0)), some (.inl (nI i))] [] M2) (N := cB f) ?_ ?_ 0 (Nat.zero_le _) M' a1 a2 (fun b h => absurd h (Nat.not_lt_zero _))
    · intro M2 b1 b2 b5
      have gp := hL.pc
      rw [← o1 M2 b1] at gp
      iterate 4 refine hS _ _ _ _ ?_
      refine And.intro (fun h15 => ?_) (fun h15 => ?_)
      · iterate 6 refine hS _ _ _ _ ?_
        refine l2 _ (b1.tr (Fl.mu1 (by omega))) ?_ ?_ b5
        · rw [mz_sl (by decide)]; exact b2
        · rw [mz_at]; exact gp
      · exact (lp_x b2 h15).elim
    · intro i hi ih M2 b1 b2 b5
      have q := hL.2.2.1 i hi
      rw [← o3 M2 b1] at q
      iterate 4 refine hS _ _ _ _ ?_
      refine And.intro (fun h15 => ?_) (fun h15 => ?_)
      · exact (lp_s b2 hi (by omega) h15).elim
      · iterate 4 refine hS _ _ _ _ ?_
        refine ⟨(by first | assumption | exact vp_in_nI (by simp only [alen]; omega) (by decide)), ?_⟩
        try rw [nI_clamp (by omega)]
        iterate 4 refine hS _ _ _ _ ?_
        refine ⟨(by first | assumption | exact vp_in_nI (by simp only [alen]; omega) (by decide)), ?_⟩
        try rw [nI_clamp (by omega)]
        refine hS _ _ _ _ ?_
        refine sp_bedAs (by omega) (fun z => hne z.1) (fun M3 c0 c1 c2 c3 c4 => ?_)
        iterate 2 refine hS _ _ _ _ ?_
        have := ih M3 (b1.tr (fun k i' z => funext fun j => c4 k i' j (fun y => z ⟨by omega, y.2.1⟩))) (by rw [c4 1 l 0 (by omega)]; exact b2) (fun b hb => by
          by_cases z : b = i
          · subst z
            rw [c0, c1, c2, c3]
            exact q
          · rw [c4 3 l b (fun y => z y.2.2)]
            exact b5 b (by omega))
        rw [nI_succ] at this
        exact this
  iterate 6 refine hS _ _ _ _ ?_
  exact l1 _ (Fl.mu1 (by omega)) (by rw [mz_at]; exact hL.bc)
theorem sp_nightsUntilHome {m : Nat} (hd : 6 ≤ d) (hp : p < cP f) (hL : LL M l f) (hT : TX M f) (hW : WF K f) (hK : K + m ≤ 90000)
    (hQ : ∀ M', Fn l M M' → Q (some (.inl (if hbF f p 0 (m + 1) ≤ m then nI (hbF f p 0 (m + 1)) else -1))) M') : Td PR d 25 [.inr (1, l, 0), .inl (nI p), .inl (nI m)] M Q := by
  have hp9 := hL.p9
  generalize hR : hbF f p 0 (m + 1) = R at hQ
  obtain ⟨e, rfl⟩ : ∃ e, d = e + 1 := ⟨d - 1, by omega⟩
  refine td_X1_nightsUntilHome ?_
  intro S hS
  have lp : ∀ n k, k + n = m + 1 → hbF f p k n = R → ∀ M', Fn l M M' → (if k = 0 then LL M' l f else LL M' l (nightsF f (k - 1))) → S 2 [some (.inr (1, l, 0)), some (.inl (nI p)), some (.inl (nI m)), some (.inl (nI k))] [] M' := by
    intro n
    induction n with
    | zero =>
      intro k hk hr M' a1 a2
      iterate 3 refine hS _ _ _ _ ?_
      refine And.intro (fun h4 => ?_) (fun h4 => ?_)
      · iterate 2 refine hS _ _ _ _ ?_
        refine qv (hQ M' a1) ?_
        rw [if_neg (by unfold hbF at hr; omega)]
      · exact absurd (nI_lt (show m < k by omega) (by omega)) h4
    | succ n ih =>
      intro k hk hr M' a1 a2
      have j15 : ∀ M2, Fn l M M2 → LL M2 l (nightsF f k) → S 15 [some (.inr (1, l, 0)), some (.inl (nI p)), some (.inl (nI m)), some (.inl (nI k))] [] M2 := by
        intro M2 b1 b2
        have hwk := nights_wf hW k
        iterate 3 refine hS _ _ _ _ ?_
        refine sp_isAtHome (by omega) b2 (by rw [(nights_kn hW.1 k).cp]; exact hp) ?_
        refine hS _ _ _ _ ?_
        refine And.intro (fun h20 => ?_) (fun h20 => ?_)
        · replace h20 := bI_f h20
          rw [hbF_f (k := k) h20] at hr
          iterate 2 refine hS _ _ _ _ ?_
          have := ih (k + 1) (by omega) hr M2 b1 (by rw [if_neg (by omega)]; exact b2)
          rw [nI_succ] at this
          exact this
        · replace h20 := bI_t h20
          rw [hbF_t (k := k) h20] at hr
          iterate 2 refine hS _ _ _ _ ?_
          refine qv (hQ M2 b1) ?_
          rw [if_pos (by omega), hr]
      rcases Nat.eq_zero_or_pos k with z | z
      · subst z
        rw [if_pos rfl] at a2
        iterate 3 refine hS _ _ _ _ ?_
        refine And.intro (fun h4 => ?_) (fun h4 => ?_)
        · exact absurd h4 (nI_nlt (by omega) (by omega))
        · iterate 2 refine hS _ _ _ _ ?_
          refine And.intro (fun h8 => ?_) (fun h8 => ?_)
          · exact j15 M' a1 a2
          · exact absurd (Int32.le_refl _) h8
      · rw [if_neg (by omega)] at a2
        have hwk := nights_wf hW (k - 1)
        iterate 3 refine hS _ _ _ _ ?_
        refine And.intro (fun h4 => ?_) (fun h4 => ?_)
        · exact absurd h4 (nI_nlt (by omega) (by omega))
        · iterate 2 refine hS _ _ _ _ ?_
          refine And.intro (fun h8 => ?_) (fun h8 => ?_)
          · exact absurd h8 (nI_nle z (by omega))
          · iterate 2 refine hS _ _ _ _ ?_
            refine sp_passNight (by omega) a2 ((a1.tx hT).cg (nights_kn hW.1 _).2.2.2 rfl rfl) hwk.2.1 (fun M2 b1 b2 => ?_)
            refine j15 M2 (a1.tr b1) ?_
            rw [show k = (k - 1) + 1 by omega]
            exact b2
  iterate 2 refine hS _ _ _ _ ?_
  exact lp (m + 1) 0 (by omega) hR M Fn.rf (by rw [if_pos rfl]; exact hL)
theorem sp_has {s : Nat} {x : Int32} {n : Nat} (hd : 1 ≤ d) (hn : M 16 s 0 1 = nI n) (h24 : n ≤ 24) (hQ : Q (some (.inl (bI (isBd n x)))) M) : Td PR d 51 [.inr (16, s, 0), .inl x] M Q := by
  obtain ⟨e, rfl⟩ : ∃ e, d = e + 1 := ⟨d - 1, by omega⟩
  refine td_X5_has ?_
  intro S hS
  iterate 2 refine hS _ _ _ _ ?_
  refine And.intro (fun h1 => ?_) (fun h1 => ?_)
  · iterate 2 refine hS _ _ _ _ ?_
    refine ⟨rfl, ?_⟩
    exact qv hQ (bI_n (isBd_lo h1 (by omega)))
  · iterate 4 refine hS _ _ _ _ ?_
    refine And.intro (fun h9 => ?_) (fun h9 => ?_)
    · have h9' := h9
      rw [show M 16 s 0 1 = _ from hn] at h9'
      iterate 2 refine hS _ _ _ _ ?_
      refine ⟨rfl, ?_⟩
      exact qv hQ (bI_n (isBd_hi h9' (by omega)))
    · have h9' := h9
      rw [show M 16 s 0 1 = _ from hn] at h9'
      iterate 3 refine hS _ _ _ _ ?_
      refine ⟨rfl, ?_⟩
      exact qv hQ (bI_p (isBd_in h1 h9' (by omega)))
theorem sp_isNumber {s k : Nat} {n : Nat} (hd : 2 ≤ d) (hn : M 16 s 0 1 = nI n) (h24 : n ≤ 24) (hk : k < n) (hQ : Q (some (.inl (bI (¬ M 17 s 0 k = -1000000005)))) M) : Td PR d 53 [.inr (16, s, 0), .inl (nI k)] M Q := by
  obtain ⟨e, rfl⟩ : ∃ e, d = e + 1 := ⟨d - 1, by omega⟩
  refine td_X5_isNumber ?_
  intro S hS
  iterate 3 refine hS _ _ _ _ ?_
  refine sp_has (by omega) hn h24 ?_
  refine hS _ _ _ _ ?_
  refine And.intro (fun h5 => ?_) (fun h5 => ?_)
  · replace h5 := bI_f h5
    exact absurd (isBd_nI hk) h5
  · replace h5 := bI_t h5
    iterate 4 refine hS _ _ _ _ ?_
    refine ⟨(by first | assumption | exact vp_in_nI (by simp only [alen]; omega) (by decide)), ?_⟩
    try rw [nI_clamp (by omega)]
    iterate 2 refine hS _ _ _ _ ?_
    refine And.intro (fun h16 => ?_) (fun h16 => ?_)
    · iterate 2 refine hS _ _ _ _ ?_
      refine ⟨rfl, ?_⟩
      exact qv hQ (bI_n (fun z => z h16))
    · iterate 3 refine hS _ _ _ _ ?_
      refine ⟨rfl, ?_⟩
      exact qv hQ (bI_p h16)
theorem sp_isMissing {s : Nat} (hd : 1 ≤ d) (hQ : Q (some (.inl (bI (M 16 s 0 0 = -1)))) M) : Td PR d 50 [.inr (16, s, 0)] M Q := by
  obtain ⟨e, rfl⟩ : ∃ e, d = e + 1 := ⟨d - 1, by omega⟩
  refine td_X5_isMissing ?_
  intro S hS
  iterate 4 refine hS _ _ _ _ ?_
  refine And.intro (fun h5 => ?_) (fun h5 => ?_)
  · iterate 2 refine hS _ _ _ _ ?_
    refine ⟨rfl, ?_⟩
    exact qv hQ (bI_n h5)
  · iterate 3 refine hS _ _ _ _ ?_
    refine ⟨rfl, ?_⟩
    exact qv hQ (bI_p h5)
theorem sp_nightsTold {s n : Nat} (hd : 6 ≤ d) (hp : p < cP f) (hL : LL M l f) (hT : TX M f) (hW : WF K f) (hK : K + 100 ≤ 90000) (hn : M 16 s 0 1 = nI n) (h24 : n ≤ 24)
    (hQ : ∀ M', Fn l M M' → Q (some (.inl (nI (toldF f p (M 17 s 0) n)))) M') : Td PR d 26 [.inr (1, l, 0), .inl (nI p), .inr (16, s, 0)] M Q := by
  have hp9 := hL.p9
  obtain ⟨e, rfl⟩ : ∃ e, d = e + 1 := ⟨d - 1, by omega⟩
  refine td_X1_nightsTold ?_
  intro S hS
  iterate 4 refine hS _ _ _ _ ?_
  refine lp_up (T := fun i => ∀ M', Fn l M M' → (if i = 0 then LL M' l f else LL M' l (nightsF f (i - 1))) → S 5 [some (.inr (1, l, 0)), some (.inl (nI p)), some (.inr (16, s, 0)), some (.inl (nI (toldF f p (M 17 s 0) i))), some (.inl (nI i))] [] M') (N := n) ?_ ?_ 0 (Nat.zero_le _) M Fn.rf (by rw [if_pos rfl]; exact hL)
  · intro M' a1 a2
    have e16 : M' 16 = M 16 := a1.kd (by decide) (by decide) (by decide) (by decide)
    have en : M' 16 s 0 1 = nI n := by rw [e16]; exact hn
    iterate 4 refine hS _ _ _ _ ?_
    refine And.intro (fun h11 => ?_) (fun h11 => ?_)
    · iterate 2 refine hS _ _ _ _ ?_
      exact hQ M' a1
    · exact (lp_x en h11).elim
  · intro i hi ih M' a1 a2
    have e16 : M' 16 = M 16 := a1.kd (by decide) (by decide) (by decide) (by decide)
    have en : M' 16 s 0 1 = nI n := by rw [e16]; exact hn
    have j23 : ∀ M2, Fn l M M2 → LL M2 l (nightsF f i) → S 23 [some (.inr (1, l, 0)), some (.inl (nI p)), some (.inr (16, s, 0)), some (.inl (nI (toldF f p (M 17 s 0) i))), some (.inl (nI i))] [] M2 := by
      intro M2 b1 b2
      have e16 : M2 16 = M 16 := b1.kd (by decide) (by decide) (by decide) (by decide)
      have e17 : M2 17 = M 17 := b1.kd (by decide) (by decide) (by decide) (by decide)
      have en2 : M2 16 s 0 1 = nI n := by rw [e16]; exact hn
      have hpi : p < cP (nightsF f i) := by rw [(nights_kn hW.1 i).cp]; exact hp
      have etw := b2.town hpi
      have hbd := (nights_wf hW i).2.2.2 p hpi
      have go : ∀ v, v = nI (toldF f p (M 17 s 0) (i + 1)) → S 5 [some (.inr (1, l, 0)), some (.inl (nI p)), some (.inr (16, s, 0)), some (.inl v), some (.inl (nI i + 1))] [] M2 := by
        intro v hv
        have := ih M2 b1 (by rw [if_neg (by omega)]; exact b2)
        rw [nI_succ, ← hv] at this
        exact this
      have es : toldF f p (M 17 s 0) (i + 1) = toldF f p (M 17 s 0) i + (if M 17 s 0 i = nightsF f i (50 + 4 * p) then 1 else 0) := rfl
      iterate 3 refine hS _ _ _ _ ?_
      refine sp_isNumber (by omega) en2 h24 hi ?_
      rw [e17]
      refine hS _ _ _ _ ?_
      refine And.intro (fun h29 => ?_) (fun h29 => ?_)
      · replace h29 := bI_f h29
        have hz : M 17 s 0 i = -1000000005 := Classical.byContradiction h29
        iterate 2 refine hS _ _ _ _ ?_
        refine go _ ?_
        rw [es, if_neg (fun z => none_town hbd (z.symm.trans hz))]; rfl
      · replace h29 := bI_t h29
        iterate 4 refine hS _ _ _ _ ?_
        refine ⟨(by first | assumption | exact vp_in_nI (by simp only [alen]; omega) (by decide)), ?_⟩
        try rw [nI_clamp (by omega)]
        iterate 4 refine hS _ _ _ _ ?_
        refine ⟨(by first | assumption | exact vp_in_nI (by simp only [alen]; omega) (by decide)), ?_⟩
        try rw [nI_clamp (by omega)]
        iterate 2 refine hS _ _ _ _ ?_
        refine And.intro (fun h48 => ?_) (fun h48 => ?_)
        · rw [e17] at h48
          iterate 2 refine hS _ _ _ _ ?_
          refine go _ ?_
          rw [es, if_neg (fun z => h48 (z.trans etw.symm))]; rfl
        · rw [e17] at h48
          iterate 3 refine hS _ _ _ _ ?_
          refine go _ ?_
          rw [es, if_pos (h48.trans etw), nI_succ]
    rcases Nat.eq_zero_or_pos i with z | z
    · subst z
      rw [if_pos rfl] at a2
      iterate 4 refine hS _ _ _ _ ?_
      refine And.intro (fun h11 => ?_) (fun h11 => ?_)
      · exact (lp_s en hi (by omega) h11).elim
      · iterate 2 refine hS _ _ _ _ ?_
        refine And.intro (fun h16 => ?_) (fun h16 => ?_)
        · exact j23 M' a1 a2
        · exact absurd (Int32.le_refl _) h16
    · rw [if_neg (by omega)] at a2
      iterate 4 refine hS _ _ _ _ ?_
      refine And.intro (fun h11 => ?_) (fun h11 => ?_)
      · exact (lp_s en hi (by omega) h11).elim
      · iterate 2 refine hS _ _ _ _ ?_
        refine And.intro (fun h16 => ?_) (fun h16 => ?_)
        · exact absurd h16 (nI_nle z (by omega))
        · iterate 2 refine hS _ _ _ _ ?_
          refine sp_passNight (by omega) a2 ((a1.tx hT).cg (nights_kn hW.1 _).2.2.2 rfl rfl) (nights_wf hW _).2.1 (fun M2 b1 b2 => ?_)
          refine j23 M2 (a1.tr b1) ?_
          rw [show i = (i - 1) + 1 by omega]
          exact b2
end W17
