-- 69.pure40: the class at a word
def TOk (n : Nat) (f : FA) (T : TK) : Prop := T.1 ≤ T.2.1 ∧ T.2.1 ≤ n ∧ T.2.2.1 ≤ 4 ∧ (T.2.2.1 ≠ 0 → T.1 < T.2.1) ∧ (T.2.2.1 = 1 ∨ T.2.2.1 = 2 → T.2.2.2 = f T.1) ∧ (T.2.2.1 = 0 → T.1 = n)
theorem rn_gt {P : Int32 → Prop} {f : FA} {s n : Nat} (h : s < n) (hp : P (f s)) : s < rn P f s (n - s) ∧ rn P f s (n - s) ≤ n := by
  have h1 := rn_le (P := P) (f := f) (n - (s + 1)) (s + 1)
  rw [show n - s = (n - (s + 1)) + 1 by omega, rn_t hp]
  omega
theorem tk_ok {f : FA} {n p : Nat} {w : Prop} (he : p ≤ n) : TOk n f (tk f n p w) ∧ p ≤ (tk f n p w).1 := by
  have hle := rn_le (P := sps) (f := f) (n - p) p
  generalize hs : rn sps f p (n - p) = s at *
  by_cases h : s = n
  · rw [tk_e hs h]
    exact ⟨⟨Nat.le_refl _, by show s ≤ n; omega, by show 0 ≤ 4; omega, fun z => absurd rfl z, fun z => absurd z (show ¬ ((0 : Nat) = 1 ∨ (0 : Nat) = 2) by decide), fun _ => h⟩, hle.1⟩
  · have hlt : s < n := by omega
    by_cases h2 : dgs (f s)
    · rw [tk_d hs h h2]
      have g := rn_gt hlt h2
      refine ⟨⟨Nat.le_of_lt g.1, g.2, ?_, fun _ => g.1, fun z => ?_, fun z => ?_⟩, hle.1⟩
      · show @ite _ _ (Classical.propDecidable _) 4 3 ≤ 4
        split <;> omega
      · revert z
        show (@ite _ _ (Classical.propDecidable _) 4 3 = 1 ∨ @ite _ _ (Classical.propDecidable _) 4 3 = 2) → _
        split <;> (intro z; omega)
      · revert z
        show @ite _ _ (Classical.propDecidable _) 4 3 = 0 → _
        split <;> (intro z; omega)
    · by_cases h3 : lts (f s)
      · rw [tk_l hs h h2 h3]
        have g := rn_gt hlt h3
        refine ⟨⟨Nat.le_of_lt g.1, g.2, ?_, fun _ => g.1, fun _ => rfl, fun z => ?_⟩, hle.1⟩
        · show @ite _ _ (Classical.propDecidable _) 4 2 ≤ 4
          split <;> omega
        · revert z
          show @ite _ _ (Classical.propDecidable _) 4 2 = 0 → _
          split <;> (intro z; omega)
      · rw [tk_s hs h h2 h3]
        exact ⟨⟨Nat.le_succ _, hlt, by show 1 ≤ 4; omega, fun _ => Nat.lt_succ_self _, fun _ => rfl, fun z => absurd z (show ¬ (1 : Nat) = 0 by decide)⟩, hle.1⟩
section W40
variable {d n i : Nat} {M : Mem} {Q : PQ} {f : FA} {T : TK}
theorem sp_isSign {x : Int32} (hd : 1 ≤ d) (hn : n ≤ 96) (hT : CT M n f T) (hO : TOk n f T) (hQ : Q (some (.inl (bI (T.2.2.1 = 1 ∧ T.2.2.2 = x)))) M) : Td PR d 38 [.inr (11, 0, 0), .inl x] M Q := by
  obtain ⟨e1, hf, e2, e3, e4, -⟩ := hT
  obtain ⟨o1, o2, o3, o4, o5, o6⟩ := hO
  obtain ⟨e, rfl⟩ : ∃ e, d = e + 1 := ⟨d - 1, by omega⟩
  refine td_X4_isSign ?_
  intro S hS
  iterate 4 refine hS _ _ _ _ ?_
  refine And.intro (fun h5 => ?_) (fun h5 => ?_)
  · rw [e4] at h5
    iterate 2 refine hS _ _ _ _ ?_
    refine ⟨rfl, ?_⟩
    exact qv hQ (bI_n (fun z => h5 (congrArg nI z.1)))
  · rw [e4] at h5
    have hk := (nI_eq (b := 1) (by omega) (by decide)).mp h5
    have hlt := o4 (by omega)
    have ev := o5 (Or.inl hk)
    have eb : M 12 0 0 T.1 = T.2.2.2 := by rw [ev]; exact hf _ (by omega)
    iterate 5 refine hS _ _ _ _ ?_
    rw [show gfv M 11 0 0 2 = .inl (nI T.1) from congrArg Sum.inl e2]
    refine ⟨(by first | assumption | exact vp_in_nI (by simp only [alen]; omega) (by decide)), ?_⟩
    try rw [nI_clamp (by omega)]
    iterate 2 refine hS _ _ _ _ ?_
    refine And.intro (fun h18 => ?_) (fun h18 => ?_)
    · rw [eb] at h18
      iterate 2 refine hS _ _ _ _ ?_
      refine ⟨rfl, ?_⟩
      exact qv hQ (bI_n (fun z => h18 z.2))
    · rw [eb] at h18
      iterate 3 refine hS _ _ _ _ ?_
      refine ⟨rfl, ?_⟩
      exact qv hQ (bI_p ⟨hk, h18⟩)
def wdP (f : FA) (T : TK) (i : Nat) : Prop := T.2.2.1 = 2 ∧ T.2.1 - T.1 = sLen i ∧ ∀ k, k < sLen i → f (T.1 + k) = sB i k
theorem sp_isWord (hd : 5 ≤ d) (hn : n ≤ 96) (hi : i < 11) (hT : CT M n f T) (hO : TOk n f T) (hQ : Q (some (.inl (bI (wdP f T i)))) M) : Td PR d 39 [.inr (11, 0, 0), .inr (80, i, 0)] M Q := by
  obtain ⟨e1, hf, e2, e3, e4, -⟩ := hT
  obtain ⟨o1, o2, o3, o4, o5, o6⟩ := hO
  have hl := sLen_lt i hi
  have es : M 11 0 0 3 - M 11 0 0 2 = nI (T.2.1 - T.1) := by rw [e2, e3]; exact nI_sub o1
  obtain ⟨e, rfl⟩ : ∃ e, d = e + 1 := ⟨d - 1, by omega⟩
  refine td_X4_isWord ?_
  intro S hS
  have lp : T.2.2.1 = 2 → T.2.1 - T.1 = sLen i → S 28 [some (.inr (11, 0, 0)), some (.inr (80, i, 0)), some (.inl (nI 0))] [] M := by
    intro hk hs
    refine lp_up (T := fun k => (∀ q, q < k → f (T.1 + q) = sB i q) → S 28 [some (.inr (11, 0, 0)), some (.inr (80, i, 0)), some (.inl (nI k))] [] M) (N := sLen i) ?_ ?_ 0 (Nat.zero_le _) (fun q hq => absurd hq (by omega))
    · intro a
      iterate 3 refine hS _ _ _ _ ?_
      refine sp_length_8abf5 (by omega) ?_
      refine hS _ _ _ _ ?_
      refine And.intro (fun h33 => ?_) (fun h33 => ?_)
      · iterate 2 refine hS _ _ _ _ ?_
        refine ⟨rfl, ?_⟩
        exact qv hQ (bI_p ⟨hk, hs, a⟩)
      · exact (lp_x rfl h33).elim
    · intro k hk2 ih a
      rw [nI_succ] at ih
      have ex : M 11 0 0 2 + nI k = nI (T.1 + k) := by rw [e2]; exact nI_add _ _
      have eb : M 12 0 0 (T.1 + k) = f (T.1 + k) := hf _ (by omega)
      iterate 3 refine hS _ _ _ _ ?_
      refine sp_length_8abf5 (by omega) ?_
      refine hS _ _ _ _ ?_
      refine And.intro (fun h33 => ?_) (fun h33 => ?_)
      · exact (lp_s rfl hk2 (by omega) h33).elim
      · iterate 7 refine hS _ _ _ _ ?_
        rw [ex]
        refine ⟨(by first | assumption | exact vp_in_nI (by simp only [alen]; omega) (by decide)), ?_⟩
        try rw [nI_clamp (by omega)]
        iterate 3 refine hS _ _ _ _ ?_
        refine sp_charAt_5068e (by omega) hi hk2 ?_
        refine hS _ _ _ _ ?_
        refine And.intro (fun h52 => ?_) (fun h52 => ?_)
        · rw [eb] at h52
          iterate 2 refine hS _ _ _ _ ?_
          refine ih (fun q hq => ?_)
          by_cases z : q = k
          · subst z; exact h52
          · exact a q (by omega)
        · rw [eb] at h52
          iterate 2 refine hS _ _ _ _ ?_
          refine ⟨rfl, ?_⟩
          exact qv hQ (bI_n (fun z => h52 (z.2.2 k hk2)))
  iterate 4 refine hS _ _ _ _ ?_
  refine And.intro (fun h5 => ?_) (fun h5 => ?_)
  · rw [e4] at h5
    iterate 2 refine hS _ _ _ _ ?_
    refine ⟨rfl, ?_⟩
    exact qv hQ (bI_n (fun z => h5 (congrArg nI z.1)))
  · rw [e4] at h5
    have hk := (nI_eq (b := 2) (by omega) (by decide)).mp h5
    iterate 7 refine hS _ _ _ _ ?_
    refine sp_length_8abf5 (by omega) ?_
    refine hS _ _ _ _ ?_
    refine And.intro (fun h21 => ?_) (fun h21 => ?_)
    · rw [es] at h21
      iterate 2 refine hS _ _ _ _ ?_
      exact lp hk ((nI_eq (by omega) (by omega)).mp h21)
    · rw [es] at h21
      iterate 2 refine hS _ _ _ _ ?_
      refine ⟨rfl, ?_⟩
      exact qv hQ (bI_n (fun z => h21 (congrArg nI z.2.1)))
end W40
