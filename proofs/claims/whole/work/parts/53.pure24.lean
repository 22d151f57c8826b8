-- 53.pure24: lacks
noncomputable def comF (R : Nat → Nat) (t : Nat) : Nat := setF (fun o => (R o).testBit t = true) 8
noncomputable def grp (R : Nat → Nat) (t : Nat) : Nat := comF R t &&& R t
theorem setF_bit {P : Nat → Prop} {x : Nat} : ∀ n, (setF P n).testBit x = true ↔ x < n ∧ P x := by
  intro n
  induction n with
  | zero => exact ⟨fun h => absurd (show (0 : Nat).testBit x = true from h) (by simp), fun h => absurd h.1 (Nat.not_lt_zero _)⟩
  | succ n ih =>
    by_cases h : P n
    · rw [setF_t h, Nat.testBit_or, Bool.or_eq_true, ih, Nat.testBit_two_pow]
      constructor
      · rintro (⟨h1, h2⟩ | h1)
        · exact ⟨by omega, h2⟩
        · have := of_decide_eq_true h1
          subst this
          exact ⟨by omega, h⟩
      · rintro ⟨h1, h2⟩
        by_cases z : n = x
        · exact Or.inr (decide_eq_true z)
        · exact Or.inl ⟨by omega, h2⟩
    · rw [setF_f h, ih]
      constructor
      · rintro ⟨h1, h2⟩
        exact ⟨by omega, h2⟩
      · rintro ⟨h1, h2⟩
        by_cases z : n = x
        · subst z; exact absurd h2 h
        · exact ⟨by omega, h2⟩
theorem comF_lt (R : Nat → Nat) (t : Nat) : comF R t < 256 := setF_lt _ 8
theorem grp_bit {R : Nat → Nat} {t x : Nat} : (grp R t).testBit x = true ↔ (x < 8 ∧ (R x).testBit t = true) ∧ (R t).testBit x = true := by
  unfold grp comF
  rw [Nat.testBit_and, Bool.and_eq_true, setF_bit]
theorem grp_lt {R : Nat → Nat} {t : Nat} : grp R t < 256 := Nat.lt_of_le_of_lt Nat.and_le_left (comF_lt R t)
/-- how many groups, that nothing leaves, that nothing enters, of the first n -/
noncomputable def lkF (R : Nat → Nat) : Nat → Nat × Nat × Nat
  | 0 => (0, 0, 0)
  | t + 1 => if ∀ s, s < t → (grp R t).testBit s = false then ((lkF R t).1 + 1, (lkF R t).2.1 + (if grp R t = R t then 1 else 0), (lkF R t).2.2 + (if grp R t = comF R t then 1 else 0)) else lkF R t
theorem lkF_t {R : Nat → Nat} {t : Nat} (h : ∀ s, s < t → (grp R t).testBit s = false) : lkF R (t + 1) = ((lkF R t).1 + 1, (lkF R t).2.1 + (if grp R t = R t then 1 else 0), (lkF R t).2.2 + (if grp R t = comF R t then 1 else 0)) := by
  conv => lhs; unfold lkF
  rw [if_pos h]
theorem lkF_f {R : Nat → Nat} {t : Nat} (h : ¬ ∀ s, s < t → (grp R t).testBit s = false) : lkF R (t + 1) = lkF R t := by
  conv => lhs; unfold lkF
  rw [if_neg h]
theorem lkF_le {R : Nat → Nat} : ∀ n, (lkF R n).1 ≤ n ∧ (lkF R n).2.1 ≤ n ∧ (lkF R n).2.2 ≤ n := by
  intro n
  induction n with
  | zero => exact ⟨Nat.le_refl _, Nat.le_refl _, Nat.le_refl _⟩
  | succ n ih =>
    by_cases h : ∀ s, s < n → (grp R n).testBit s = false
    · rw [lkF_t h]
      refine ⟨by show _ + 1 ≤ _; omega, ?_, ?_⟩
      · show _ + _ ≤ _; split <;> omega
      · show _ + _ ≤ _; split <;> omega
    · rw [lkF_f h]
      exact ⟨by omega, by omega, by omega⟩
theorem lkF_1 {R : Nat → Nat} : ∀ n, 1 ≤ (lkF R (n + 1)).1 ∧ ((lkF R (n + 1)).1 = 1 ↔ ∀ t, 0 < t → t < n + 1 → ¬ ∀ s, s < t → (grp R t).testBit s = false) := by
  intro n
  induction n with
  | zero =>
    rw [lkF_t (fun s hs => absurd hs (Nat.not_lt_zero _))]
    exact ⟨Nat.le_refl _, ⟨fun _ t h1 h2 => by omega, fun _ => rfl⟩⟩
  | succ n ih =>
    by_cases h : ∀ s, s < n + 1 → (grp R (n + 1)).testBit s = false
    · rw [lkF_t h]
      refine ⟨by show 1 ≤ _ + 1; omega, ⟨fun z => ?_, fun z => absurd h (z (n + 1) (by omega) (by omega))⟩⟩
      change (lkF R (n + 1)).1 + 1 = 1 at z
      omega
    · rw [lkF_f h]
      refine ⟨ih.1, ih.2.trans ⟨fun z t h1 h2 => ?_, fun z t h1 h2 => z t h1 (by omega)⟩⟩
      by_cases y : t = n + 1
      · subst y; exact h
      · exact z t h1 (by omega)
/-- ways behind one another are ways -/
def TRn (R : Nat → Nat) : Prop := (∀ t, t < 8 → R t < 256 ∧ (R t).testBit t = true) ∧ ∀ t s, t < 8 → (R t).testBit s = true → Sb (R s) (R t)
theorem full_256 {a : Nat} (h : a < 256) (hf : ∀ x, x < 8 → a.testBit x = true) : a = 255 := by
  refine Nat.eq_of_testBit_eq fun i => ?_
  by_cases z : i < 8
  · rw [hf i z]
    have : ∀ i, i < 8 → true = (255 : Nat).testBit i := by decide
    exact this i z
  · have h2 : 256 ≤ 2 ^ i := Nat.pow_le_pow_right (n := 2) (by omega) (show 8 ≤ i by omega)
    rw [Nat.testBit_lt_two_pow (Nat.lt_of_lt_of_le h h2), Nat.testBit_lt_two_pow (Nat.lt_of_lt_of_le (by decide : 255 < 256) h2)]
theorem whole_iff {R : Nat → Nat} (h : TRn R) : (lkF R 8).1 = 1 ↔ ∃ t, t < 8 ∧ grp R t = 255 := by
  rw [(lkF_1 7).2]
  constructor
  · intro z
    have z0 : ∀ t, t < 8 → (R t).testBit 0 = true ∧ (R 0).testBit t = true := by
      intro t
      induction t using Nat.strongRecOn with
      | ind t ih =>
        intro ht
        rcases Nat.eq_zero_or_pos t with e | e
        · subst e; exact ⟨(h.1 0 ht).2, (h.1 0 ht).2⟩
        · have := z t e ht
          obtain ⟨s, hs, hb⟩ : ∃ s, s < t ∧ (grp R t).testBit s = true := Classical.byContradiction fun c => this fun s hs => by
            cases y : (grp R t).testBit s
            · rfl
            · exact absurd ⟨s, hs, y⟩ c
          obtain ⟨⟨h8, h1⟩, h2⟩ := grp_bit.mp hb
          have q := ih s hs h8
          exact ⟨h.2 t s ht h2 0 q.1, h.2 0 s (by omega) q.2 t h1⟩
    exact ⟨0, by omega, full_256 grp_lt fun x hx => grp_bit.mpr ⟨⟨hx, (z0 x hx).1⟩, (z0 x hx).2⟩⟩
  · rintro ⟨t, ht, hg⟩ s hs0 hs8 hc
    have hb : ∀ x, x < 8 → (R x).testBit t = true ∧ (R t).testBit x = true := fun x hx => by
      have : (grp R t).testBit x = true := by
        rw [hg]
        have : ∀ i, i < 8 → (255 : Nat).testBit i = true := by decide
        exact this x hx
      have q := grp_bit.mp this
      exact ⟨q.1.2, q.2⟩
    have e : (grp R s).testBit 0 = true := grp_bit.mpr ⟨⟨by omega, h.2 0 t (by omega) (hb 0 (by omega)).1 s (hb s hs8).2⟩, h.2 s t hs8 (hb s hs8).1 0 (hb 0 (by omega)).2⟩
    rw [hc 0 hs0] at e
    exact absurd e (by decide)
theorem RR_TRn {f : FA} (h : RG f) {wo : Int32} : TRn (RR f wo) := ⟨fun t ht => ⟨RR_lt h ht, RR_self⟩, fun t s ht hs => RR_tr h ht hs⟩
noncomputable def lacksV (f : FA) : Int32 := if (lkF (RR f (-1)) 8).1 = 1 then 0 else nI (max (lkF (RR f (-1)) 8).2.1 (lkF (RR f (-1)) 8).2.2)
section W24
variable {d l b p K : Nat} {M : Mem} {Q : PQ} {f : FA} {R : Nat → Nat}
theorem setF_256 (P : Nat → Prop) {n : Nat} (h : n ≤ 8) : setF P n < 256 := Nat.lt_of_lt_of_le (setF_lt P n) (Nat.pow_le_pow_right (by omega) h)
theorem sp_comingTo {t : Nat} (hd : 1 ≤ d) (ht : t < 8) (hR : ∀ t, t < 8 → R t < 256) (h14 : ∀ t, t < 8 → M 14 0 0 t = nI (R t)) (hQ : Q (some (.inl (nI (comF R t)))) M) : Td PR d 64 [.inr (13, 0, 0), .inl (nI t)] M Q := by
  obtain ⟨e, rfl⟩ : ∃ e, d = e + 1 := ⟨d - 1, by omega⟩
  refine td_X8_comingTo ?_
  intro S hS
  iterate 4 refine hS _ _ _ _ ?_
  refine lp_up (T := fun i => S 4 [some (.inr (13, 0, 0)), some (.inl (nI t)), some (.inl (nI (setF (fun o => (R o).testBit t = true) i))), some (.inl (nI i))] [] M) (N := 8) ?_ ?_ 0 (Nat.zero_le _)
  · iterate 3 refine hS _ _ _ _ ?_
    refine And.intro (fun h7 => ?_) (fun h7 => ?_)
    · iterate 2 refine hS _ _ _ _ ?_
      exact hQ
    · exact (lp_x (n := 8) rfl h7).elim
  · intro i hi ih
    rw [nI_succ] at ih
    have tb := tb2 (hR i hi) ht
    iterate 3 refine hS _ _ _ _ ?_
    refine And.intro (fun h7 => ?_) (fun h7 => ?_)
    · exact (lp_s (n := 8) rfl hi (by omega) h7).elim
    · iterate 4 refine hS _ _ _ _ ?_
      refine ⟨(by first | assumption | exact vp_in_nI (by simp only [alen]; omega) (by decide)), ?_⟩
      try rw [nI_clamp (by omega)]
      iterate 5 refine hS _ _ _ _ ?_
      refine And.intro (fun h20 => ?_) (fun h20 => ?_)
      · rw [h14 i hi, tb] at h20
        have hz : ¬ (R i).testBit t = true := fun z => absurd h20 (by rw [if_pos z]; decide)
        iterate 2 refine hS _ _ _ _ ?_
        rw [setF_f (P := fun o => (R o).testBit t = true) hz] at ih
        exact ih
      · rw [h14 i hi, tb] at h20
        have hz : (R i).testBit t = true := Classical.byContradiction fun z => h20 (by rw [if_neg z])
        iterate 8 refine hS _ _ _ _ ?_
        rw [setF_t (P := fun o => (R o).testBit t = true) hz, ← (orb _ (Nat.lt_trans (setF_256 _ (by omega)) (by omega)) i (by omega)).1] at ih
        exact ih
theorem sp_lacking (hd : 5 ≤ d) (hL : LL M 0 f) (hR : RG f) (hQ : ∀ M', (∀ k, k ≠ 14 → M' k = M k) → Q (some (.inl (lacksV f))) M') : Td PR d 65 [.inr (13, 0, 0)] M Q := by
  generalize hV : lacksV f = W at hQ
  unfold lacksV at hV
  have hlt : ∀ t, t < 8 → RR f (-1) t < 256 := fun t ht => RR_lt hR ht
  generalize hRR : RR f (-1) = R at *
  obtain ⟨e, rfl⟩ : ∃ e, d = e + 1 := ⟨d - 1, by omega⟩
  refine td_X8_lacking ?_
  intro S hS
  have l2 : ∀ M', (∀ k, k ≠ 14 → M' k = M k) → (∀ t, t < 8 → M' 14 0 0 t = nI (R t)) → S 35 [some (.inr (13, 0, 0)), some (.inl 0), some (.inl 0), some (.inl 0), some (.inl 0), none, none, none] [] M' := by
    intro M' a1 a2
    refine lp_up (T := fun i => ∀ o5 o6 o7, S 35 [some (.inr (13, 0, 0)), some (.inl (nI (lkF R i).1)), some (.inl (nI (lkF R i).2.1)), some (.inl (nI (lkF R i).2.2)), some (.inl (nI i)), o5, o6, o7] [] M') (N := 8) ?_ ?_ 0 (Nat.zero_le _) none none none
    · intro o5 o6 o7
      have hle := lkF_le (R := R) 8
      iterate 3 refine hS _ _ _ _ ?_
      refine And.intro (fun h39 => ?_) (fun h39 => ?_)
      · iterate 3 refine hS _ _ _ _ ?_
        refine And.intro (fun h132 => ?_) (fun h132 => ?_)
        · rw [if_neg (fun z => h132 (by rw [z]; rfl))] at hV
          iterate 3 refine hS _ _ _ _ ?_
          refine hS _ _ _ _ ?_
          refine qv (hQ M' a1) (hV.symm.trans ?_)
          by_cases z : (lkF R 8).2.1 < (lkF R 8).2.2
          · rw [Nat.max_eq_right (by omega), if_pos (nI_lt z (by omega))]
          · rw [Nat.max_eq_left (by omega), if_neg (nI_nlt (by omega) (by omega))]
        · rw [if_pos ((nI_eq (b := 1) (by omega) (by decide)).mp h132)] at hV
          iterate 3 refine hS _ _ _ _ ?_
          exact qv (hQ M' a1) hV.symm
      · exact (lp_x (n := 8) rfl h39).elim
    · intro i hi ih o5 o6 o7
      have e14 := a2 i hi
      have hlo := low8 (grp R i) grp_lt i hi
      have hc := comF_lt R i
      have hg := grp_lt (R := R) (t := i)
      have hRi := hlt i hi
      iterate 3 refine hS _ _ _ _ ?_
      refine And.intro (fun h39 => ?_) (fun h39 => ?_)
      · exact (lp_s (n := 8) rfl hi (by omega) h39).elim
      · iterate 3 refine hS _ _ _ _ ?_
        refine sp_comingTo (by omega) hi hlt a2 ?_
        iterate 6 refine hS _ _ _ _ ?_
        refine ⟨(by first | assumption | exact vp_in_nI (by simp only [alen]; omega) (by decide)), ?_⟩
        rw [nI_clamp (by omega), e14]
        iterate 2 refine hS _ _ _ _ ?_
        rw [show nI (comF R i) &&& nI (R i) = nI (grp R i) from nI_and _ _]
        iterate 8 refine hS _ _ _ _ ?_
        refine And.intro (fun h71 => ?_) (fun h71 => ?_)
        · have hn := fun z => h71 (hlo.mpr z)
          rw [lkF_f hn] at ih
          iterate 4 refine hS _ _ _ _ ?_
          refine And.intro (fun _ => ?_) (fun h => absurd h (by decide))
          iterate 2 refine hS _ _ _ _ ?_
          have := ih (some (.inl (nI (comF R i)))) (some (.inl (nI (grp R i)))) (some (.inl 0))
          rw [nI_succ] at this
          exact this
        · rw [lkF_t (hlo.mp h71)] at ih
          iterate 5 refine hS _ _ _ _ ?_
          refine And.intro (fun h => absurd h (by decide)) (fun _ => ?_)
          iterate 7 refine hS _ _ _ _ ?_
          refine ⟨(by first | assumption | exact vp_in_nI (by simp only [alen]; omega) (by decide)), ?_⟩
          rw [nI_clamp (by omega), e14]
          refine hS _ _ _ _ ?_
          refine And.intro (fun h99 => ?_) (fun h99 => ?_)
          · have e1 : ¬ grp R i = R i := fun z => h99 (by rw [z])
            rw [if_neg e1] at ih
            iterate 7 refine hS _ _ _ _ ?_
            refine And.intro (fun h114 => ?_) (fun h114 => ?_)
            · have e2 : ¬ grp R i = comF R i := fun z => h114 (by rw [z])
              rw [if_neg e2] at ih
              iterate 5 refine hS _ _ _ _ ?_
              have := ih (some (.inl (nI (comF R i)))) (some (.inl (nI (grp R i)))) (some (.inl 1))
              simp only [← nI_add] at this
              exact this
            · have e2 : grp R i = comF R i := (nI_eq (by omega) (by omega)).mp h114
              rw [if_pos e2] at ih
              iterate 6 refine hS _ _ _ _ ?_
              have := ih (some (.inl (nI (comF R i)))) (some (.inl (nI (grp R i)))) (some (.inl 1))
              simp only [← nI_add] at this
              exact this
          · have e1 : grp R i = R i := (nI_eq (by omega) (by omega)).mp h99
            rw [if_pos e1] at ih
            iterate 8 refine hS _ _ _ _ ?_
            refine And.intro (fun h114 => ?_) (fun h114 => ?_)
            · have e2 : ¬ grp R i = comF R i := fun z => h114 (by rw [z])
              rw [if_neg e2] at ih
              iterate 5 refine hS _ _ _ _ ?_
              have := ih (some (.inl (nI (comF R i)))) (some (.inl (nI (grp R i)))) (some (.inl 1))
              simp only [← nI_add] at this
              exact this
            · have e2 : grp R i = comF R i := (nI_eq (by omega) (by omega)).mp h114
              rw [if_pos e2] at ih
              iterate 6 refine hS _ _ _ _ ?_
              have := ih (some (.inl (nI (comF R i)))) (some (.inl (nI (grp R i)))) (some (.inl 1))
              simp only [← nI_add] at this
              exact this
  iterate 2 refine hS _ _ _ _ ?_
  refine lp_up (T := fun i => ∀ M', (∀ k, k ≠ 14 → M' k = M k) → (∀ t, t < i → M' 14 0 0 t = nI (R t)) → S 2 [some (.inr (13, 0, 0)), some (.inl (nI i)), none, none, none, none, none, none] [] M') (N := 8) ?_ ?_ 0 (Nat.zero_le _) M (fun _ _ => rfl) (fun t h => absurd h (Nat.not_lt_zero _))
  · intro M' a1 a2
    iterate 3 refine hS _ _ _ _ ?_
    refine And.intro (fun h5 => ?_) (fun h5 => ?_)
    · iterate 8 refine hS _ _ _ _ ?_
      exact l2 M' a1 a2
    · exact (lp_x (n := 8) rfl h5).elim
  · intro i hi ih M' a1 a2
    have hL' : LL M' 0 f := hL.fr (by rw [a1 1 (by decide)]) (by rw [a1 3 (by decide)]) (by rw [a1 5 (by decide)])
    iterate 3 refine hS _ _ _ _ ?_
    refine And.intro (fun h5 => ?_) (fun h5 => ?_)
    · exact (lp_s (n := 8) rfl hi (by omega) h5).elim
    · iterate 7 refine hS _ _ _ _ ?_
      refine sp_reachOf (by omega) hL' hR hi ?_
      rw [hRR]
      refine hS _ _ _ _ ?_
      refine ⟨(by first | assumption | exact vp_in_nI (by simp only [alen]; omega) (by decide)), ?_⟩
      try rw [nI_clamp (by omega)]
      iterate 2 refine hS _ _ _ _ ?_
      rw [nI_succ] at ih
      refine ih (mu M' 14 0 0 i (nI (R i))) (fun k hk => (mz_k hk).trans (a1 k hk)) (fun t ht => ?_)
      by_cases z : t = i
      · subst z; rw [mz_at]
      · rw [upd_mu, upd_ne z]; exact a2 t (by omega)
theorem or_bit1 : ∀ m, m < 256 → ∀ p, p < 8 → ∀ b, b < 2 → nI m ||| nI b <<< (nI p &&& 31) = nI (m ||| (if b = 1 then 2 ^ p else 0)) := by decide +kernel
end W24
theorem c_lacks {M : Mem} {Q : PQ} {d : Nat} (hd : 500 ≤ d) (hI : INV M) (hQ : ∀ M', FrS M M' → Q (some (.inl (lacksV (M 31 0 0)))) M') : Td PR d 82 [.inr (0, 0, 0)] M Q := by
  have hL := hI.ll
  have hC := hI.cn
  have hb10 := hL.b10
  have hp9 := hL.p9
  have ht14 := hL.t14
  generalize hV : lacksV (M 31 0 0) = W at hQ
  obtain ⟨e, rfl⟩ : ∃ e, d = e + 1 := ⟨d - 1, by omega⟩
  refine td_X9_lacks ?_
  intro S hS
  iterate 3 refine hS _ _ _ _ ?_
  refine sp_lacking (by omega) hL hI.wf.2.2 (fun M1 f1 => ?_)
  refine hS _ _ _ _ ?_
  exact qv (hQ _ ⟨by rw [f1 31 (by decide)], fun k i z => by rw [f1 k (fun e => z (by unfold Sc; omega))]⟩) hV.symm
theorem m_lacks {M : Mem} {Q : PQ} {d : Nat} (hd : 500 ≤ d) (hI : INV M) (hQ : ∀ M', FrS M M' → Q (some (.inl (lacksV (M 31 0 0)))) M') : Td PR d 167 [.inr (30, 0, 0)] M Q := by
  have hL := hI.ll
  have hC := hI.cn
  have hb10 := hL.b10
  have hp9 := hL.p9
  have ht14 := hL.t14
  generalize hV : lacksV (M 31 0 0) = W at hQ
  have mlp : ∀ Q : PQ, (∀ M', FrS M M' → Q (some (.inl W)) M') → ∀ {e : Nat} (S : CF), Clo (Td PR e) (some .int) T_X10_lacks Q S → 20 ≤ e → ∀ M1, Fw M M1 → (∀ t, t < 8 → M1 37 0 0 t = nI (RR (M 31 0 0) (-1) t)) → S 14 [some (.inr (30, 0, 0)), some (.inl 0), some (.inl 0), some (.inl 0), some (.inl 0), none, none, none] [] M1 := by
    intro Q hQ e S hS he M1 f1 a37
    unfold lacksV at hV
    have hlt : ∀ t, t < 8 → RR (M 31 0 0) (-1) t < 256 := fun t ht => RR_lt hI.wf.2.2 ht
    have hw := whole_iff (RR_TRn hI.wf.2.2 (wo := -1))
    generalize hRR : RR (M 31 0 0) (-1) = R at *
    have hle := lkF_le (R := R)
    refine lp_up (T := fun i => ∀ o5 o6 o7 w, (w = 0 ∨ w = 1) → (w = 1 ↔ ∃ t, t < i ∧ grp R t = 255) → S 14 [some (.inr (30, 0, 0)), some (.inl (nI (lkF R i).2.2)), some (.inl (nI (lkF R i).2.1)), some (.inl w), some (.inl (nI i)), o5, o6, o7] [] M1) (N := 8) ?_ ?_ 0 (Nat.zero_le _) none none none 0 (Or.inl rfl) ⟨fun h => absurd h (by decide), fun ⟨t, ht, _⟩ => absurd ht (Nat.not_lt_zero _)⟩
    · intro o5 o6 o7 w hw01 hwi
      have h8 := hle 8
      iterate 3 refine hS _ _ _ _ ?_
      refine And.intro (fun h18 => ?_) (fun h18 => ?_)
      · iterate 2 refine hS _ _ _ _ ?_
        refine And.intro (fun h161 => ?_) (fun h161 => ?_)
        · rw [if_neg (fun z => absurd (hwi.mpr (hw.mp z)) (by rw [show w = 0 from h161]; decide))] at hV
          iterate 3 refine hS _ _ _ _ ?_
          refine And.intro (fun h170 => ?_) (fun h170 => ?_)
          · iterate 2 refine hS _ _ _ _ ?_
            refine qv (hQ M1 f1.sc) (hV.symm.trans ?_)
            rw [Nat.max_eq_left (Nat.le_of_not_lt fun z => absurd h170 (nI_ge z (by omega)))]
          · iterate 3 refine hS _ _ _ _ ?_
            refine qv (hQ M1 f1.sc) (hV.symm.trans ?_)
            rw [Nat.max_eq_right (Nat.le_of_lt (Nat.lt_of_not_le fun z => h170 (nI_le z (by omega))))]
        · have w1 : w = 1 := hw01.resolve_left h161
          rw [if_pos (hw.mpr (hwi.mp w1))] at hV
          iterate 3 refine hS _ _ _ _ ?_
          exact qv (hQ M1 f1.sc) hV.symm
      · exact (lp_x (n := 8) rfl h18).elim
    · intro i hi ih o5 o6 o7 w hw01 hwi
      have hlo := low8 (grp R i) grp_lt i hi
      have hc := comF_lt R i
      have hg := grp_lt (R := R) (t := i)
      have hRi := hlt i hi
      have e37 := a37 i hi
      have inn : S 27 [some (.inr (30, 0, 0)), some (.inl (nI (lkF R i).2.2)), some (.inl (nI (lkF R i).2.1)), some (.inl w), some (.inl (nI i)), some (.inl 0), some (.inl 0), o7] [] M1 := by
        refine lp_up (T := fun q => S 27 [some (.inr (30, 0, 0)), some (.inl (nI (lkF R i).2.2)), some (.inl (nI (lkF R i).2.1)), some (.inl w), some (.inl (nI i)), some (.inl (nI (setF (fun o => (R o).testBit i = true) q))), some (.inl (nI q)), o7] [] M1) (N := 8) ?_ ?_ 0 (Nat.zero_le _)
        · have hw' : ∀ w' : Int32, (w' = 0 ∨ w' = 1) → (w' = 1 ↔ (w = 1 ∨ grp R i = 255)) → (w' = 1 ↔ ∃ t, t < i + 1 ∧ grp R t = 255) := by
            intro w' _ e
            rw [e, hwi]
            constructor
            · rintro (⟨t, h1, h2⟩ | h1)
              · exact ⟨t, by omega, h2⟩
              · exact ⟨i, by omega, h1⟩
            · rintro ⟨t, h1, h2⟩
              by_cases z : t = i
              · subst z; exact Or.inr h2
              · exact Or.inl ⟨t, by omega, h2⟩
          have go : ∀ w', (w' = 0 ∨ w' = 1) → (w' = 1 ↔ (w = 1 ∨ grp R i = 255)) → S 89 [some (.inr (30, 0, 0)), some (.inl (nI (lkF R i).2.2)), some (.inl (nI (lkF R i).2.1)), some (.inl w), some (.inl (nI i)), some (.inl (nI (comF R i))), some (.inl (nI (grp R i))), o7] [.inl w'] M1 := by
            intro w' e1 e2
            have ih' := fun o5 o6 o7 => ih o5 o6 o7 w' e1 (hw' w' e1 e2)
            rw [nI_succ i] at ih'
            clear ih
            iterate 9 refine hS _ _ _ _ ?_
            refine And.intro (fun h99 => ?_) (fun h99 => ?_)
            · have hn := fun z => h99 (hlo.mpr z)
              rw [lkF_f hn] at ih'
              iterate 5 refine hS _ _ _ _ ?_
              refine And.intro (fun _ => ?_) (fun h => absurd h (by decide))
              iterate 6 refine hS _ _ _ _ ?_
              refine And.intro (fun _ => ?_) (fun h => absurd h (by decide))
              iterate 5 refine hS _ _ _ _ ?_
              have := ih' (some (.inl (nI (comF R i)))) (some (.inl (nI (grp R i)))) (some (.inl 0))
              refine slv this ?_
              rw [show ∀ x : Int32, x + 0 = x from fun x => Int32.add_zero x, show ∀ x : Int32, x + 0 = x from fun x => Int32.add_zero x]
              rfl
            · rw [lkF_t (hlo.mp h99)] at ih'
              iterate 6 refine hS _ _ _ _ ?_
              refine And.intro (fun h => absurd h (by decide)) (fun _ => ?_)
              iterate 3 refine hS _ _ _ _ ?_
              refine And.intro (fun h119 => ?_) (fun h119 => ?_)
              · have e3 : ¬ grp R i = comF R i := fun z => h119 (by rw [z])
                rw [if_neg e3] at ih'
                iterate 6 refine hS _ _ _ _ ?_
                refine And.intro (fun h => absurd h (by decide)) (fun _ => ?_)
                iterate 4 refine hS _ _ _ _ ?_
                refine ⟨(by first | assumption | exact vp_in_nI (by simp only [alen]; omega) (by decide)), ?_⟩
                rw [nI_clamp (by omega), e37]
                iterate 2 refine hS _ _ _ _ ?_
                refine And.intro (fun h144 => ?_) (fun h144 => ?_)
                · have e4 : ¬ grp R i = R i := fun z => h144 (by rw [z])
                  rw [if_neg e4] at ih'
                  iterate 5 refine hS _ _ _ _ ?_
                  have := ih' (some (.inl (nI (comF R i)))) (some (.inl (nI (grp R i)))) (some (.inl 1))
                  simp only [← nI_add] at this
                  exact this
                · have e4 : grp R i = R i := ((nI_eq (by omega) (by omega)).mp h144).symm
                  rw [if_pos e4] at ih'
                  iterate 6 refine hS _ _ _ _ ?_
                  have := ih' (some (.inl (nI (comF R i)))) (some (.inl (nI (grp R i)))) (some (.inl 1))
                  simp only [← nI_add] at this
                  exact this
              · have e3 : grp R i = comF R i := ((nI_eq (by omega) (by omega)).mp h119).symm
                rw [if_pos e3] at ih'
                iterate 7 refine hS _ _ _ _ ?_
                refine And.intro (fun h => absurd h (by decide)) (fun _ => ?_)
                iterate 4 refine hS _ _ _ _ ?_
                refine ⟨(by first | assumption | exact vp_in_nI (by simp only [alen]; omega) (by decide)), ?_⟩
                rw [nI_clamp (by omega), e37]
                iterate 2 refine hS _ _ _ _ ?_
                refine And.intro (fun h144 => ?_) (fun h144 => ?_)
                · have e4 : ¬ grp R i = R i := fun z => h144 (by rw [z])
                  rw [if_neg e4] at ih'
                  iterate 5 refine hS _ _ _ _ ?_
                  have := ih' (some (.inl (nI (comF R i)))) (some (.inl (nI (grp R i)))) (some (.inl 1))
                  simp only [← nI_add] at this
                  exact this
                · have e4 : grp R i = R i := ((nI_eq (by omega) (by omega)).mp h144).symm
                  rw [if_pos e4] at ih'
                  iterate 6 refine hS _ _ _ _ ?_
                  have := ih' (some (.inl (nI (comF R i)))) (some (.inl (nI (grp R i)))) (some (.inl 1))
                  simp only [← nI_add] at this
                  exact this
          iterate 3 refine hS _ _ _ _ ?_
          refine And.intro (fun h31 => ?_) (fun h31 => ?_)
          · iterate 5 refine hS _ _ _ _ ?_
            refine ⟨(by first | assumption | exact vp_in_nI (by simp only [alen]; omega) (by decide)), ?_⟩
            rw [nI_clamp (by omega), e37]
            iterate 2 refine hS _ _ _ _ ?_
            rw [show nI (setF (fun o => (R o).testBit i = true) 8) &&& nI (R i) = nI (grp R i) from nI_and _ _]
            iterate 2 refine hS _ _ _ _ ?_
            refine And.intro (fun h73 => ?_) (fun h73 => ?_)
            · iterate 2 refine hS _ _ _ _ ?_
              exact go 1 (Or.inr rfl) ⟨fun _ => Or.inl (hw01.resolve_left h73), fun _ => rfl⟩
            · iterate 3 refine hS _ _ _ _ ?_
              refine And.intro (fun h81 => ?_) (fun h81 => ?_)
              · refine hS _ _ _ _ ?_
                exact go 0 (Or.inl rfl) ⟨fun z => absurd z (by decide), fun z => z.elim (fun y => absurd (y.symm.trans h73) (by decide)) (fun y => absurd (by rw [y]; rfl) h81)⟩
              · iterate 2 refine hS _ _ _ _ ?_
                exact go 1 (Or.inr rfl) ⟨fun _ => Or.inr ((nI_eq (b := 255) (by omega) (by decide)).mp h81), fun _ => rfl⟩
          · exact (lp_x (n := 8) rfl h31).elim
        · intro q hq ihq
          have tb := tb2 (hlt q hq) hi
          have e37 := a37 q hq
          rw [nI_succ] at ihq
          have o1 := or_bit1 (setF (fun o => (R o).testBit i = true) q) (setF_256 _ (by omega)) q hq (if (R q).testBit i = true then 1 else 0) (by split <;> omega)
          have eb : nI (if (R q).testBit i = true then 1 else 0) = if (R q).testBit i = true then 1 else 0 := by split <;> rfl
          rw [eb] at o1
          have es : setF (fun o => (R o).testBit i = true) (q + 1) = setF (fun o => (R o).testBit i = true) q ||| (if (if (R q).testBit i = true then 1 else 0) = 1 then 2 ^ q else 0) := by
            by_cases z : (R q).testBit i = true
            · rw [setF_t (P := fun o => (R o).testBit i = true) z, if_pos z, if_pos rfl]
            · rw [setF_f (P := fun o => (R o).testBit i = true) z, if_neg z, if_neg (by decide), Nat.or_zero]
          rw [es, ← o1, ← tb, ← e37] at ihq
          iterate 3 refine hS _ _ _ _ ?_
          refine And.intro (fun h31 => ?_) (fun h31 => ?_)
          · exact (lp_s (n := 8) rfl hq (by omega) h31).elim
          · iterate 5 refine hS _ _ _ _ ?_
            refine ⟨(by first | assumption | exact vp_in_nI (by simp only [alen]; omega) (by decide)), ?_⟩
            try rw [nI_clamp (by omega)]
            iterate 10 refine hS _ _ _ _ ?_
            exact ihq
      iterate 3 refine hS _ _ _ _ ?_
      refine And.intro (fun h18 => ?_) (fun h18 => ?_)
      · exact (lp_s (n := 8) rfl hi (by omega) h18).elim
      · iterate 4 refine hS _ _ _ _ ?_
        exact inn
  obtain ⟨e, rfl⟩ : ∃ e, d = e + 1 := ⟨d - 1, by omega⟩
  refine td_X10_lacks ?_
  intro S hS
  iterate 3 refine hS _ _ _ _ ?_
  refine sm_looksAround (by omega) hC hI.wf.2.2 (fun M1 f1 a36 a37 => ?_)
  iterate 8 refine hS _ _ _ _ ?_
  exact mlp Q hQ _ hS (by omega) M1 f1 a37
theorem op_lacks : OpOK 82 167 [] := op_q (fun M => lacksV (M 31 0 0)) (fun M Q d hd hI hQ => c_lacks hd hI hQ) (fun M Q d hd hI hQ => m_lacks hd hI hQ) (fun M M' h => by simp only [h.k31])
