-- 69.pure40: the class at a word
def TOk (n : Nat) (f : FA) (T : TK) : Prop := T.1 ≤ T.2.1 ∧ T.2.1 ≤ n ∧ T.2.2.1 ≤ 4 ∧ (T.2.2.1 ≠ 0 → T.1 < T.2.1) ∧ (T.2.2.1 = 1 ∨ T.2.2.1 = 2 → T.2.2.2 = f T.1) ∧ (T.2.2.1 = 0 → T.1 = n)
theorem rn_gt {P : Int32 → Prop} {f : FA} {s n : Nat} (h : s < n) (hp : P (f s)) : s < rn P f s (n - s) ∧ rn P f s (n - s) ≤ n := by
  have h1 := rn_le (P := P) (f := f) (n - (s + 1)) (s + 1)
  rw [show n - s = (n - (s + 1)) + 1 by omega, rn_t hp]
  omega
theorem tk_ok {f : FA} {n p : Nat} {w : Prop} (he : p ≤ n) : TOk n f (tk f n p w) ∧ p ≤ (tk f n p w).1 := by
  have hle := rn_le (P := sps) (f := f) (n - p) p
  generalize hs : rn sps f p (n - p) = s at *
  by_cases h : s = n
  · rw [tk_e hs h]
    exact ⟨⟨Nat.le_refl _, by show s ≤ n; omega, by show 0 ≤ 4; omega, fun z => absurd rfl z, fun z => absurd z (show ¬ ((0 : Nat) = 1 ∨ (0 : Nat) = 2) by decide), fun _ => h⟩, hle.1⟩
  · have hlt : s < n := by omega
    by_cases h2 : dgs (f s)
    · rw [tk_d hs h h2]
      have g := rn_gt hlt h2
      refine ⟨⟨Nat.le_of_lt g.1, g.2, ?_, fun _ => g.1, fun z => ?_, fun z => ?_⟩, hle.1⟩
      · show @ite _ _ (Classical.propDecidable _) 4 3 ≤ 4
        split <;> omega
      · revert z
        show (@ite _ _ (Classical.propDecidable _) 4 3 = 1 ∨ @ite _ _ (Classical.propDecidable _) 4 3 = 2) → _
        split <;> (intro z; omega)
      · revert z
        show @ite _ _ (Classical.propDecidable _) 4 3 = 0 → _
        split <;> (intro z; omega)
    · by_cases h3 : lts (f s)
      · rw [tk_l hs h h2 h3]
        have g := rn_gt hlt h3
        refine ⟨⟨Nat.le_of_lt g.1, g.2, ?_, fun _ => g.1, fun _ => rfl, fun z => ?_⟩, hle.1⟩
        · show @ite _ _ (Classical.propDecidable _) 4 2 ≤ 4
          split <;> omega
        · revert z
          show @ite _ _ (Classical.propDecidable _) 4 2 = 0 → _
          split <;> (intro z; omega)
      · rw [tk_s hs h h2 h3]
        exact ⟨⟨Nat.le_succ _, hlt, by show 1 ≤ 4; omega, fun _ => Nat.lt_succ_self _, fun _ => rfl, fun z => absurd z (show ¬ (1 : Nat) = 0 by decide)⟩, hle.1⟩
section W40
variable {d n i : Nat} {M : Mem} {Q : PQ} {f : FA} {T : TK}
theorem sp_isSign {x : Int32} (hd : 1 ≤ d) (hn : n ≤ 96) (hT : CT M n f T) (hO : TOk n f T) (hQ : Q (some (.inl (bI (T.2.2.1 = 1 ∧ T.2.2.2 = x)))) M) : Td PR d 38 [.inr (11, 0, 0), .inl x] M Q := by
  obtain ⟨e1, hf, e2, e3, e4, -⟩ := hT
  obtain ⟨o1, o2, o3, o4, o5, o6⟩ := hO
  obtain ⟨e, rfl⟩ : ∃ e, d = e + 1 := ⟨d - 1, by omega⟩
  refine td_X4_isSign ?_
  intro S hS
  iterate 4 refine hS _ _ _ _ ?_
  refine And.intro (fun h5 => ?_) (fun h5 => ?_)
  · rw [e4] at h5
    iterate 2 refine hS _ _ _ _ ?_
    refine ⟨rfl, ?_⟩
    exact qv hQ (bI_n (fun z => h5 (congrArg nI z.1)))
  · rw [e4] at h5
    have hk := (nI_eq (b := 1) (by omega) (by decide)).mp h5
    have hlt := o4 (by omega)
    have ev := o5 (Or.inl hk)
    have eb : M 12 0 0 T.1 = T.2.2.2 := by rw [ev]; exact hf _ (by omega)
    iterate 5 refine hS _ _ _ _ ?_
    rw [show gfv M 11 0 0 2 = .inl (nI T.1) from congrArg Sum.inl e2]
    refine ⟨(by first | assumption | exact vp_in_nI (by simp only [alen]; omega) (by decide)), ?_⟩
    try rw [nI_clamp (by omega)]
    iterate 2 refine hS _ _ _ _ ?_
    refine And.intro (fun h18 => ?_) (fun h18 => ?_)
    · rw [eb] at h18
      iterate 2 refine hS _ _ _ _ ?_
      refine ⟨rfl, ?_⟩
      exact qv hQ (bI_n (fun z => h18 z.2))
    · rw [eb] at h18
      iterate 3 refine hS _ _ _ _ ?_
      refine ⟨rfl, ?_⟩
      exact qv hQ (bI_p ⟨hk, h18⟩)
def wdP (f : FA) (T : TK) (i : Nat) : Prop := T.2.2.1 = 2 ∧ T.2.1 - T.1 = sLen i ∧ ∀ k, k < sLen i → f (T.1 + k) = sB i k
theorem sp_isWord (hd : 5 ≤ d) (hn : n ≤ 96) (hi : i < 11) (hT : CT M n f T) (hO : TOk n f T) (hQ : Q (some (.inl (bI (wdP f T i)))) M) : Td PR d 39 [.inr (11, 0, 0), .inr (80, i, 0)] M Q := by
  obtain ⟨e1, hf, e2, e3, e4, -⟩ := hT
  obtain ⟨o1, o2, o3, o4, o5, o6⟩ := hO
  have hl := sLen_lt i hi
  have es : M 11 0 0 3 - M 11 0 0 2 = nI (T.2.1 - T.1) := by rw [e2, e3]; exact nI_sub o1
  obtain ⟨e, rfl⟩ : ∃ e, d = e + 1 := ⟨d - 1, by omega⟩
  refine td_X4_isWord ?_
  intro S hS
  have lp : T.2.2.1 = 2 → T.2.1 - T.1 = sLen i → S 28 [some (.inr (11, 0, 0)), some (.inr (80, i, 0)), some (.inl (nI 0))] [] M := by
    intro hk hs
    refine lp_up (T := fun k => (∀ q, q < k → f (T.1 + q) = sB i q) → S 28 [some (.inr (11, 0, 0)), some (.inr (80, i, 0)), some (.inl (nI k))] [] M) (N := sLen i) ?_ ?_ 0 (Nat.zero_le _) (fun q hq => absurd hq (by omega))
    · intro a
      iterate 3 refine hS _ _ _ _ ?_
      refine sp_length_8abf5 (by omega) ?_
      refine hS _ _ _ _ ?_
      refine And.intro (fun h33 => ?_) (fun h33 => ?_)
      · iterate 2 refine hS _ _ _ _ ?_
        refine ⟨rfl, ?_⟩
        exact qv hQ (bI_p ⟨hk, hs, a⟩)
      · exact (lp_x rfl h33).elim
    · intro k hk2 ih a
      rw [nI_succ] at ih
      have ex : M 11 0 0 2 + nI k = nI (T.1 + k) := by rw [e2]; exact nI_add _ _
      have eb : M 12 0 0 (T.1 + k) = f (T.1 + k) := hf _ (by omega)
      iterate 3 refine hS _ _ _ _ ?_
      refine sp_length_8abf5 (by omega) ?_
      refine hS _ _ _ _ ?_
      refine And.intro (fun h33 => ?_) (fun h33 => ?_)
      · exact (lp_s rfl hk2 (by omega) h33).elim
      · iterate 7 refine hS _ _ _ _ ?_
        rw [ex]
        refine ⟨(by first | assumption | exact vp_in_nI (by simp only [alen]; omega) (by decide)), ?_⟩
        try rw [nI_clamp (by omega)]
        iterate 3 refine hS _ _ _ _ ?_
        refine sp_charAt_5068e (by omega) hi hk2 ?_
        refine hS _ _ _ _ ?_
        refine And.intro (fun h52 => ?_) (fun h52 => ?_)
        · rw [eb] at h52
          iterate 2 refine hS _ _ _ _ ?_
          refine ih (fun q hq => ?_)
          by_cases z : q = k
          · subst z; exact h52
          · exact a q (by omega)
        · rw [eb] at h52
          iterate 2 refine hS _ _ _ _ ?_
          refine ⟨rfl, ?_⟩
          exact qv hQ (bI_n (fun z => h52 (z.2.2 k hk2)))
  iterate 4 refine hS _ _ _ _ ?_
  refine And.intro (fun h5 => ?_) (fun h5 => ?_)
  · rw [e4] at h5
    iterate 2 refine hS _ _ _ _ ?_
    refine ⟨rfl, ?_⟩
    exact qv hQ (bI_n (fun z => h5 (congrArg nI z.1)))
  · rw [e4] at h5
    have hk := (nI_eq (b := 2) (by omega) (by decide)).mp h5
    iterate 7 refine hS _ _ _ _ ?_
    refine sp_length_8abf5 (by omega) ?_
    refine hS _ _ _ _ ?_
    refine And.intro (fun h21 => ?_) (fun h21 => ?_)
    · rw [es] at h21
      iterate 2 refine hS _ _ _ _ ?_
      exact lp hk ((nI_eq (by omega) (by omega)).mp h21)
    · rw [es] at h21
      iterate 2 refine hS _ _ _ _ ?_
      refine ⟨rfl, ?_⟩
      exact qv hQ (bI_n (fun z => h21 (congrArg nI z.2.1)))
noncomputable def kyF (f : FA) (T : TK) : Int32 := iteC (wdP f T 0) 0 (iteC (wdP f T 1) 1 (iteC (wdP f T 2) 2 (-1)))
theorem sp_keyHere (hd : 6 ≤ d) (hn : n ≤ 96) (hT : CT M n f T) (hO : TOk n f T) (hQ : Q (some (.inl (kyF f T))) M) : Td PR d 40 [.inr (11, 0, 0)] M Q := by
  unfold kyF at hQ
  obtain ⟨e, rfl⟩ : ∃ e, d = e + 1 := ⟨d - 1, by omega⟩
  refine td_X4_keyHere ?_
  intro S hS
  iterate 3 refine hS _ _ _ _ ?_
  refine sp_isWord (i := 0) (by omega) hn (by omega) hT hO ?_
  refine hS _ _ _ _ ?_
  refine And.intro (fun h6 => ?_) (fun h6 => ?_)
  · replace h6 := bI_f h6
    rw [iteC_f h6] at hQ
    iterate 3 refine hS _ _ _ _ ?_
    refine sp_isWord (i := 1) (by omega) hn (by omega) hT hO ?_
    refine hS _ _ _ _ ?_
    refine And.intro (fun h17 => ?_) (fun h17 => ?_)
    · replace h17 := bI_f h17
      rw [iteC_f h17] at hQ
      iterate 3 refine hS _ _ _ _ ?_
      refine sp_isWord (i := 2) (by omega) hn (by omega) hT hO ?_
      refine hS _ _ _ _ ?_
      refine And.intro (fun h28 => ?_) (fun h28 => ?_)
      · replace h28 := bI_f h28
        rw [iteC_f h28] at hQ
        iterate 2 refine hS _ _ _ _ ?_
        exact hQ
      · replace h28 := bI_t h28
        rw [iteC_t h28] at hQ
        iterate 3 refine hS _ _ _ _ ?_
        exact hQ
    · replace h17 := bI_t h17
      rw [iteC_t h17] at hQ
      iterate 2 refine hS _ _ _ _ ?_
      exact hQ
  · replace h6 := bI_t h6
    rw [iteC_t h6] at hQ
    iterate 2 refine hS _ _ _ _ ?_
    exact hQ
theorem sp_namesOf {k : Nat} (hd : 1 ≤ d) (hk : k < 3) (hQ : Q (some (.inr (80, 3 + k, 0))) M) : Td PR d 41 [.inl (nI k)] M Q := by
  obtain ⟨e, rfl⟩ : ∃ e, d = e + 1 := ⟨d - 1, by omega⟩
  refine td_X4_namesOf ?_
  intro S hS
  iterate 2 refine hS _ _ _ _ ?_
  refine And.intro (fun h1 => ?_) (fun h1 => ?_)
  · have hz : k ≠ 0 := fun z => h1 (congrArg nI z)
    iterate 3 refine hS _ _ _ _ ?_
    refine And.intro (fun h9 => ?_) (fun h9 => ?_)
    · have hy : k ≠ 1 := fun z => h9 (congrArg nI z)
      obtain rfl : k = 2 := by omega
      iterate 2 refine hS _ _ _ _ ?_
      exact hQ
    · have hy := (nI_eq (b := 1) (by omega) (by decide)).mp h9
      subst hy
      iterate 3 refine hS _ _ _ _ ?_
      exact hQ
  · have hz := (nI_eq (b := 0) (by omega) (by decide)).mp h1
    subst hz
    iterate 2 refine hS _ _ _ _ ?_
    exact hQ
theorem sp_signsOf {l : Nat} (hd : 1 ≤ d) (hl : l < 5) (hQ : Q (some (.inr (80, 6 + l, 0))) M) : Td PR d 43 [.inl (nI l)] M Q := by
  obtain ⟨e, rfl⟩ : ∃ e, d = e + 1 := ⟨d - 1, by omega⟩
  refine td_X4_signsOf ?_
  intro S hS
  iterate 2 refine hS _ _ _ _ ?_
  refine And.intro (fun h1_0 => ?_) (fun h1_0 => ?_)
  · have hz := (nI_eq (b := 0) (by omega) (by decide)).mp h1_0
    subst hz
    iterate 2 refine hS _ _ _ _ ?_
    exact hQ
  refine And.intro (fun h1_1 => ?_) (fun h1_1 => ?_)
  · have hz := (nI_eq (b := 1) (by omega) (by decide)).mp h1_1
    subst hz
    iterate 2 refine hS _ _ _ _ ?_
    exact hQ
  refine And.intro (fun h1_2 => ?_) (fun h1_2 => ?_)
  · have hz := (nI_eq (b := 2) (by omega) (by decide)).mp h1_2
    subst hz
    iterate 2 refine hS _ _ _ _ ?_
    exact hQ
  refine And.intro (fun h1_3 => ?_) (fun h1_3 => ?_)
  · have hz := (nI_eq (b := 3) (by omega) (by decide)).mp h1_3
    subst hz
    iterate 2 refine hS _ _ _ _ ?_
    exact hQ
  have hz : l = 4 := by
    have a0 : l ≠ 0 := fun z => h1_0 (congrArg nI z)
    have a1 : l ≠ 1 := fun z => h1_1 (congrArg nI z)
    have a2 : l ≠ 2 := fun z => h1_2 (congrArg nI z)
    have a3 : l ≠ 3 := fun z => h1_3 (congrArg nI z)
    omega
  subst hz
  iterate 2 refine hS _ _ _ _ ?_
  exact hQ
noncomputable def nmF (T : TK) (ky : Nat) : Int32 := iteC (T.2.2.1 = 2 ∧ T.2.1 - T.1 = 1) (ixF (3 + ky) T.2.2.2 0 (sLen (3 + ky))) (-1)
theorem sp_nameHere {x ky : Nat} (hd : 6 ≤ d) (hn : n ≤ 96) (hb : ∀ i, i < n → isBd 256 (f i)) (hT : CT M n f T) (hO : TOk n f T) (hx : x < 16) (ex : M 11 0 0 6 = nI x) (hk : ky < 3) (ek : M 9 x 0 0 = nI ky) (hQ : Q (some (.inl (nmF T ky))) M) : Td PR d 42 [.inr (11, 0, 0)] M Q := by
  obtain ⟨e1, hf, e2, e3, e4, -⟩ := hT
  obtain ⟨o1, o2, o3, o4, o5, o6⟩ := hO
  have es : M 11 0 0 3 - M 11 0 0 2 = nI (T.2.1 - T.1) := by rw [e2, e3]; exact nI_sub o1
  have hdr : (M 11 0 0 6).toNatClampNeg < 16 := by rw [ex, nI_clamp (by omega)]; exact hx
  have hdx : (M 11 0 0 6).toNatClampNeg = x := by rw [ex, nI_clamp (by omega)]
  unfold nmF at hQ
  obtain ⟨e, rfl⟩ : ∃ e, d = e + 1 := ⟨d - 1, by omega⟩
  refine td_X4_nameHere ?_
  intro S hS
  iterate 4 refine hS _ _ _ _ ?_
  refine And.intro (fun h5 => ?_) (fun h5 => ?_)
  · rw [e4] at h5
    rw [iteC_f (fun z => h5 (congrArg nI z.1))] at hQ
    iterate 2 refine hS _ _ _ _ ?_
    exact hQ
  · rw [e4] at h5
    have hk2 := (nI_eq (b := 2) (by omega) (by decide)).mp h5
    have hlt := o4 (by omega)
    have ev := o5 (Or.inr hk2)
    have eb : M 12 0 0 T.1 = T.2.2.2 := by rw [ev]; exact hf _ (by omega)
    have hv : isBd 256 T.2.2.2 := by rw [ev]; exact hb _ (by omega)
    iterate 7 refine hS _ _ _ _ ?_
    refine And.intro (fun h18 => ?_) (fun h18 => ?_)
    · rw [es] at h18
      rw [iteC_t ⟨hk2, (nI_eq (b := 1) (by omega) (by decide)).mp h18⟩] at hQ
      iterate 2 refine hS _ _ _ _ ?_
      refine ⟨by assumption, ?_⟩
      iterate 2 refine hS _ _ _ _ ?_
      rw [hdx, show gfv M 9 x 0 0 = .inl (nI ky) from congrArg Sum.inl ek]
      refine sp_namesOf (by omega) hk ?_
      iterate 5 refine hS _ _ _ _ ?_
      rw [show gfv M 11 0 0 2 = .inl (nI T.1) from congrArg Sum.inl e2]
      refine ⟨(by first | assumption | exact vp_in_nI (by simp only [alen]; omega) (by decide)), ?_⟩
      try rw [nI_clamp (by omega)]
      iterate 2 refine hS _ _ _ _ ?_
      rw [eb, i2c_bd hv]
      refine sp_indexOf_0f7a4 (by omega) (by omega) hv ?_
      refine hS _ _ _ _ ?_
      exact hQ
    · rw [es] at h18
      rw [iteC_f (fun z => h18 (congrArg nI z.2))] at hQ
      iterate 2 refine hS _ _ _ _ ?_
      exact hQ
theorem sp_isJoined {l : Nat} (hd : 6 ≤ d) (hn : n ≤ 96) (hl : l < 5) (hb : ∀ i, i < n → isBd 256 (f i)) (hT : CT M n f T) (hO : TOk n f T) (hQ : Q (some (.inl (bI (T.2.2.1 = 1 ∧ ¬ ixF (6 + l) T.2.2.2 0 (sLen (6 + l)) < 0)))) M) : Td PR d 44 [.inr (11, 0, 0), .inl (nI l)] M Q := by
  obtain ⟨e1, hf, e2, e3, e4, -⟩ := hT
  obtain ⟨o1, o2, o3, o4, o5, o6⟩ := hO
  obtain ⟨e, rfl⟩ : ∃ e, d = e + 1 := ⟨d - 1, by omega⟩
  refine td_X4_isJoined ?_
  intro S hS
  iterate 4 refine hS _ _ _ _ ?_
  refine And.intro (fun h5 => ?_) (fun h5 => ?_)
  · rw [e4] at h5
    iterate 2 refine hS _ _ _ _ ?_
    refine ⟨rfl, ?_⟩
    exact qv hQ (bI_n (fun z => h5 (congrArg nI z.1)))
  · rw [e4] at h5
    have hk := (nI_eq (b := 1) (by omega) (by decide)).mp h5
    have hlt := o4 (by omega)
    have ev := o5 (Or.inl hk)
    have eb : M 12 0 0 T.1 = T.2.2.2 := by rw [ev]; exact hf _ (by omega)
    have hv : isBd 256 T.2.2.2 := by rw [ev]; exact hb _ (by omega)
    iterate 2 refine hS _ _ _ _ ?_
    refine sp_signsOf (by omega) hl ?_
    iterate 5 refine hS _ _ _ _ ?_
    rw [show gfv M 11 0 0 2 = .inl (nI T.1) from congrArg Sum.inl e2]
    refine ⟨(by first | assumption | exact vp_in_nI (by simp only [alen]; omega) (by decide)), ?_⟩
    try rw [nI_clamp (by omega)]
    iterate 2 refine hS _ _ _ _ ?_
    rw [eb, i2c_bd hv]
    refine sp_indexOf_0f7a4 (by omega) (by omega) hv ?_
    refine hS _ _ _ _ ?_
    refine And.intro (fun h25 => ?_) (fun h25 => ?_)
    · iterate 2 refine hS _ _ _ _ ?_
      refine ⟨rfl, ?_⟩
      exact qv hQ (bI_n (fun z => z.2 h25))
    · iterate 3 refine hS _ _ _ _ ?_
      refine ⟨rfl, ?_⟩
      exact qv hQ (bI_p ⟨hk, h25⟩)
end W40
