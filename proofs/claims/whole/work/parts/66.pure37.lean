-- 66.pure37: words of a text, read by the class
/-- from k on, m at most: the first that is not so -/
noncomputable def rn (P : Int32 → Prop) (f : FA) : Nat → Nat → Nat
  | k, 0 => k
  | k, m + 1 => @ite _ (P (f k)) (Classical.propDecidable _) (rn P f (k + 1) m) k
theorem rn_t {P : Int32 → Prop} {f : FA} {k m : Nat} (h : P (f k)) : rn P f k (m + 1) = rn P f (k + 1) m := by unfold rn; rw [if_pos h]; cases m <;> rfl
theorem rn_f {P : Int32 → Prop} {f : FA} {k m : Nat} (h : ¬ P (f k)) : rn P f k (m + 1) = k := by unfold rn; rw [if_neg h]
theorem rn_le {P : Int32 → Prop} {f : FA} : ∀ m k, k ≤ rn P f k m ∧ rn P f k m ≤ k + m := by
  intro m
  induction m with
  | zero => intro k; exact ⟨Nat.le_refl _, Nat.le_refl _⟩
  | succ m ih =>
    intro k
    by_cases z : P (f k)
    · rw [rn_t z]; have := ih (k + 1); omega
    · rw [rn_f z]; omega
theorem rn_all {P : Int32 → Prop} {f : FA} : ∀ m k i, k ≤ i → i < rn P f k m → P (f i) := by
  intro m
  induction m with
  | zero => intro k i a b; exact absurd b (by show ¬ i < k; omega)
  | succ m ih =>
    intro k i a b
    by_cases z : P (f k)
    · rw [rn_t z] at b
      by_cases y : i = k
      · rw [y]; exact z
      · exact ih (k + 1) i (by omega) b
    · rw [rn_f z] at b; omega
def sps (x : Int32) : Prop := x = 32
def dgs (x : Int32) : Prop := ¬ x < 48 ∧ ¬ 57 < x
def lts (x : Int32) : Prop := ¬ x < 97 ∧ ¬ 122 < x
def nvF (f : FA) (a : Nat) : Nat → Int32
  | 0 => 0
  | m + 1 => nvF f a m * 10 + f (a + m) - 48
/-- a word or sign: from, end, what (0 end, 1 sign, 2 letters, 3 number, 4 wrong), its first byte or its number -/
abbrev TK := Nat × Nat × Nat × Int32
noncomputable def tk (f : FA) (n p : Nat) (w : Prop) : TK :=
  let s := rn sps f p (n - p)
  @ite _ (s = n) (Classical.propDecidable _) (n, n, 0, 0)
    (@ite _ (dgs (f s)) (Classical.propDecidable _) (s, rn dgs f s (n - s), @ite _ (4 < rn dgs f s (n - s) - s ∨ (w ∧ s = p)) (Classical.propDecidable _) 4 3, nvF f s (rn dgs f s (n - s) - s))
      (@ite _ (lts (f s)) (Classical.propDecidable _) (s, rn lts f s (n - s), @ite _ (w ∧ s = p) (Classical.propDecidable _) 4 2, f s)
        (s, s + 1, 1, f s)))
theorem tk_e {f : FA} {n p s : Nat} {w : Prop} (hs : rn sps f p (n - p) = s) (h : s = n) : tk f n p w = (s, s, 0, 0) := by subst hs; unfold tk; rw [h]; exact if_pos rfl
theorem tk_d {f : FA} {n p s : Nat} {w : Prop} (hs : rn sps f p (n - p) = s) (h : ¬ s = n) (h2 : dgs (f s)) : tk f n p w = (s, rn dgs f s (n - s), @ite _ (4 < rn dgs f s (n - s) - s ∨ (w ∧ s = p)) (Classical.propDecidable _) 4 3, nvF f s (rn dgs f s (n - s) - s)) := by subst hs; exact (if_neg h).trans (if_pos h2)
theorem tk_l {f : FA} {n p s : Nat} {w : Prop} (hs : rn sps f p (n - p) = s) (h : ¬ s = n) (h2 : ¬ dgs (f s)) (h3 : lts (f s)) : tk f n p w = (s, rn lts f s (n - s), @ite _ (w ∧ s = p) (Classical.propDecidable _) 4 2, f s) := by subst hs; exact (if_neg h).trans ((if_neg h2).trans (if_pos h3))
theorem tk_s {f : FA} {n p s : Nat} {w : Prop} (hs : rn sps f p (n - p) = s) (h : ¬ s = n) (h2 : ¬ dgs (f s)) (h3 : ¬ lts (f s)) : tk f n p w = (s, s + 1, 1, f s) := by subst hs; exact (if_neg h).trans ((if_neg h2).trans (if_neg h3))
noncomputable def nt (f : FA) (n : Nat) (T : TK) : TK := tk f n T.2.1 (T.2.2.1 = 2 ∨ T.2.2.1 = 3)
/-- the class stands at a word -/
def CT (M : Mem) (n : Nat) (f : FA) (T : TK) : Prop := M 11 0 0 1 = nI n ∧ (∀ i, i < n → M 12 0 0 i = f i) ∧ M 11 0 0 2 = nI T.1 ∧ M 11 0 0 3 = nI T.2.1 ∧ M 11 0 0 4 = nI T.2.2.1 ∧ (T.2.2.1 = 3 → M 11 0 0 5 = T.2.2.2)
def F11 (M M1 : Mem) : Prop := (∀ k, k ≠ 11 → M1 k = M k) ∧ ∀ j, j ≠ 2 → j ≠ 3 → j ≠ 4 → j ≠ 5 → M1 11 0 0 j = M 11 0 0 j
theorem F11.rf {M : Mem} : F11 M M := ⟨fun _ _ => rfl, fun _ _ _ _ _ => rfl⟩
theorem F11.tr {M M' M'' : Mem} (h : F11 M M') (h' : F11 M' M'') : F11 M M'' := ⟨fun k a => (h'.1 k a).trans (h.1 k a), fun j a b c e => (h'.2 j a b c e).trans (h.2 j a b c e)⟩
theorem F11.mu {M : Mem} {j : Nat} {v : Int32} (h : j = 2 ∨ j = 3 ∨ j = 4 ∨ j = 5) : F11 M (mu M 11 0 0 j v) := ⟨fun _ a => mz_k a, fun _ a b c e => mz_sl (by omega)⟩
section W37
variable {d n p s : Nat} {M : Mem} {Q : PQ} {f : FA}
theorem sp_isDigit (hd : 1 ≤ d) (hp : p < 96) (hQ : Q (some (.inl (bI (dgs (M 12 0 0 p))))) M) : Td PR d 36 [.inr (11, 0, 0), .inl (nI p)] M Q := by
  obtain ⟨e, rfl⟩ : ∃ e, d = e + 1 := ⟨d - 1, by omega⟩
  refine td_X4_isDigit ?_
  intro S hS
  iterate 4 refine hS _ _ _ _ ?_
  refine ⟨(by first | assumption | exact vp_in_nI (by simp only [alen]; omega) (by decide)), ?_⟩
  try rw [nI_clamp (by omega)]
  iterate 2 refine hS _ _ _ _ ?_
  refine And.intro (fun h8 => ?_) (fun h8 => ?_)
  · iterate 2 refine hS _ _ _ _ ?_
    refine ⟨rfl, ?_⟩
    exact qv hQ (bI_n (fun z => z.1 h8))
  · iterate 4 refine hS _ _ _ _ ?_
    refine ⟨(by first | assumption | exact vp_in_nI (by simp only [alen]; omega) (by decide)), ?_⟩
    try rw [nI_clamp (by omega)]
    iterate 2 refine hS _ _ _ _ ?_
    refine And.intro (fun h19 => ?_) (fun h19 => ?_)
    · iterate 2 refine hS _ _ _ _ ?_
      refine ⟨rfl, ?_⟩
      exact qv hQ (bI_n (fun z => z.2 h19))
    · iterate 3 refine hS _ _ _ _ ?_
      refine ⟨rfl, ?_⟩
      exact qv hQ (bI_p ⟨h8, h19⟩)
theorem sp_isLetter (hd : 1 ≤ d) (hp : p < 96) (hQ : Q (some (.inl (bI (lts (M 12 0 0 p))))) M) : Td PR d 37 [.inr (11, 0, 0), .inl (nI p)] M Q := by
  obtain ⟨e, rfl⟩ : ∃ e, d = e + 1 := ⟨d - 1, by omega⟩
  refine td_X4_isLetter ?_
  intro S hS
  iterate 4 refine hS _ _ _ _ ?_
  refine ⟨(by first | assumption | exact vp_in_nI (by simp only [alen]; omega) (by decide)), ?_⟩
  try rw [nI_clamp (by omega)]
  iterate 2 refine hS _ _ _ _ ?_
  refine And.intro (fun h8 => ?_) (fun h8 => ?_)
  · iterate 2 refine hS _ _ _ _ ?_
    refine ⟨rfl, ?_⟩
    exact qv hQ (bI_n (fun z => z.1 h8))
  · iterate 4 refine hS _ _ _ _ ?_
    refine ⟨(by first | assumption | exact vp_in_nI (by simp only [alen]; omega) (by decide)), ?_⟩
    try rw [nI_clamp (by omega)]
    iterate 2 refine hS _ _ _ _ ?_
    refine And.intro (fun h19 => ?_) (fun h19 => ?_)
    · iterate 2 refine hS _ _ _ _ ?_
      refine ⟨rfl, ?_⟩
      exact qv hQ (bI_n (fun z => z.2 h19))
    · iterate 3 refine hS _ _ _ _ ?_
      refine ⟨rfl, ?_⟩
      exact qv hQ (bI_p ⟨h8, h19⟩)
theorem sp_readLetters (hd : 2 ≤ d) (hn : n ≤ 96) (hs : s ≤ n) (e1 : M 11 0 0 1 = nI n) (hf : ∀ i, i < n → M 12 0 0 i = f i) (e3 : M 11 0 0 3 = nI s) (hQ : ∀ M1, F11 M M1 → M1 11 0 0 2 = M 11 0 0 2 → M1 11 0 0 3 = nI (rn lts f s (n - s)) → M1 11 0 0 4 = 2 → Q none M1) : Td PR d 35 [.inr (11, 0, 0)] M Q := by
  generalize hR : rn lts f s (n - s) = R at hQ
  obtain ⟨e, rfl⟩ : ∃ e, d = e + 1 := ⟨d - 1, by omega⟩
  refine td_X4_readLetters ?_
  intro S hS
  have fin : ∀ M1, F11 M M1 → M1 11 0 0 2 = M 11 0 0 2 → M1 11 0 0 3 = nI R → S 35 [some (.inr (11, 0, 0))] [] M1 := by
    intro M1 a1 a2 a3
    iterate 4 refine hS _ _ _ _ ?_
    exact hQ _ (a1.tr (F11.mu (by omega))) ((mz_sl (by decide)).trans a2) ((mz_sl (by decide)).trans a3) mz_at
  refine lp_up (T := fun i => ∀ M1, F11 M M1 → M1 11 0 0 2 = M 11 0 0 2 → M1 11 0 0 3 = nI i → rn lts f i (n - i) = R → S 0 [some (.inr (11, 0, 0))] [] M1) (N := n) ?_ ?_ s hs M F11.rf rfl e3 hR
  · intro M1 a1 a2 a3 a4
    have e1' : M1 11 0 0 1 = nI n := (a1.2 1 (by decide) (by decide) (by decide) (by decide)).trans e1
    rw [Nat.sub_self] at a4
    iterate 5 refine hS _ _ _ _ ?_
    refine And.intro (fun h8 => ?_) (fun h8 => ?_)
    · exact fin M1 a1 a2 (a3.trans (congrArg nI a4))
    · exact (by rw [e1', a3] at h8; exact (lp_x rfl h8).elim)
  · intro i hi ih M1 a1 a2 a3 a4
    have e1' : M1 11 0 0 1 = nI n := (a1.2 1 (by decide) (by decide) (by decide) (by decide)).trans e1
    have ef : M1 12 0 0 i = f i := by rw [a1.1 12 (by decide)]; exact hf i hi
    rw [show n - i = (n - (i + 1)) + 1 by omega] at a4
    iterate 5 refine hS _ _ _ _ ?_
    refine And.intro (fun h8 => ?_) (fun h8 => ?_)
    · exact (by rw [e1', a3] at h8; exact (lp_s rfl hi (by omega) h8).elim)
    · iterate 4 refine hS _ _ _ _ ?_
      rw [show gfv M1 11 0 0 3 = .inl (nI i) from congrArg Sum.inl a3]
      refine sp_isLetter (by omega) (by omega) ?_
      rw [ef]
      refine hS _ _ _ _ ?_
      refine And.intro (fun h19 => ?_) (fun h19 => ?_)
      · replace h19 := bI_f h19
        rw [rn_f h19] at a4
        exact fin M1 a1 a2 (a3.trans (congrArg nI a4))
      · replace h19 := bI_t h19
        rw [rn_t h19] at a4
        iterate 7 refine hS _ _ _ _ ?_
        exact ih _ (a1.tr (F11.mu (by omega))) ((mz_sl (by decide)).trans a2) (by rw [mz_at, nI_succ]; exact congrArg (· + 1) a3) a4
theorem sp_readNumber (hd : 2 ≤ d) (hn : n ≤ 96) (hs : s ≤ n) (e1 : M 11 0 0 1 = nI n) (hf : ∀ i, i < n → M 12 0 0 i = f i) (e2 : M 11 0 0 2 = nI s) (e3 : M 11 0 0 3 = nI s) (hQ : ∀ M1, F11 M M1 → M1 11 0 0 2 = nI s → M1 11 0 0 3 = nI (rn dgs f s (n - s)) → M1 11 0 0 4 = (if 4 < rn dgs f s (n - s) - s then 4 else 3) → M1 11 0 0 5 = nvF f s (rn dgs f s (n - s) - s) → Q none M1) : Td PR d 34 [.inr (11, 0, 0)] M Q := by
  have hle := rn_le (P := dgs) (f := f) (n - s) s
  generalize hR : rn dgs f s (n - s) = R at hQ hle
  obtain ⟨e, rfl⟩ : ∃ e, d = e + 1 := ⟨d - 1, by omega⟩
  refine td_X4_readNumber ?_
  intro S hS
  have fin : ∀ M1, F11 M M1 → M1 11 0 0 2 = nI s → M1 11 0 0 3 = nI R → M1 11 0 0 5 = nvF f s (R - s) → S 64 [some (.inr (11, 0, 0))] [] M1 := by
    intro M1 a1 a2 a3 a5
    have es : M1 11 0 0 3 - M1 11 0 0 2 = nI (R - s) := by rw [a2, a3]; exact nI_sub (by omega)
    iterate 8 refine hS _ _ _ _ ?_
    refine And.intro (fun h75 => ?_) (fun h75 => ?_)
    · have g75 : ¬ 4 < R - s := fun z => by rw [es] at h75; exact nI_ge z (by omega) h75
      iterate 3 refine hS _ _ _ _ ?_
      exact hQ _ (a1.tr (F11.mu (by omega))) ((mz_sl (by decide)).trans a2) ((mz_sl (by decide)).trans a3) (by rw [if_neg g75]; exact mz_at) ((mz_sl (by decide)).trans a5)
    · have g75 : 4 < R - s := Nat.lt_of_not_le fun z => h75 (by rw [es]; exact nI_le z (by decide))
      iterate 4 refine hS _ _ _ _ ?_
      exact hQ _ (a1.tr (F11.mu (by omega))) ((mz_sl (by decide)).trans a2) ((mz_sl (by decide)).trans a3) (by rw [if_pos g75]; exact mz_at) ((mz_sl (by decide)).trans a5)
  have lp : ∀ M1, F11 M M1 → M1 11 0 0 2 = nI s → M1 11 0 0 3 = nI s → M1 11 0 0 5 = nvF f s (s - s) → S 5 [some (.inr (11, 0, 0))] [] M1 := by
    intro M1 b1 b2 b3 b5
    refine lp_up (T := fun i => ∀ M1, F11 M M1 → M1 11 0 0 2 = nI s → M1 11 0 0 3 = nI i → M1 11 0 0 5 = nvF f s (i - s) → s ≤ i → rn dgs f i (n - i) = R → S 5 [some (.inr (11, 0, 0))] [] M1) (N := n) ?_ ?_ s hs M1 b1 b2 b3 b5 (Nat.le_refl _) hR
    · intro M1 a1 a2 a3 a5 a6 a4
      have e1' : M1 11 0 0 1 = nI n := (a1.2 1 (by decide) (by decide) (by decide) (by decide)).trans e1
      rw [Nat.sub_self] at a4
      have a4' : n = R := a4
      iterate 5 refine hS _ _ _ _ ?_
      refine And.intro (fun h13 => ?_) (fun h13 => ?_)
      · exact fin M1 a1 a2 (a3.trans (congrArg nI a4)) (by rw [← a4']; exact a5)
      · exact (by rw [e1', a3] at h13; exact (lp_x rfl h13).elim)
    · intro i hi ih M1 a1 a2 a3 a5 a6 a4
      have e1' : M1 11 0 0 1 = nI n := (a1.2 1 (by decide) (by decide) (by decide) (by decide)).trans e1
      have ef : M1 12 0 0 i = f i := by rw [a1.1 12 (by decide)]; exact hf i hi
      rw [show n - i = (n - (i + 1)) + 1 by omega] at a4
      have ev : nvF f s (i + 1 - s) = nvF f s (i - s) * 10 + f i - 48 := by
        rw [show i + 1 - s = (i - s) + 1 by omega]
        show nvF f s (i - s) * 10 + f (s + (i - s)) - 48 = _
        rw [show s + (i - s) = i by omega]
      iterate 5 refine hS _ _ _ _ ?_
      refine And.intro (fun h13 => ?_) (fun h13 => ?_)
      · exact (by rw [e1', a3] at h13; exact (lp_s rfl hi (by omega) h13).elim)
      · iterate 4 refine hS _ _ _ _ ?_
        rw [show gfv M1 11 0 0 3 = .inl (nI i) from congrArg Sum.inl a3]
        refine sp_isDigit (by omega) (by omega) ?_
        rw [ef]
        refine hS _ _ _ _ ?_
        refine And.intro (fun h24 => ?_) (fun h24 => ?_)
        · replace h24 := bI_f h24
          rw [rn_f h24] at a4
          exact fin M1 a1 a2 (a3.trans (congrArg nI a4)) (by rw [← a4]; exact a5)
        · replace h24 := bI_t h24
          rw [rn_t h24] at a4
          iterate 10 refine hS _ _ _ _ ?_
          rw [show gfv M1 11 0 0 3 = .inl (nI i) from congrArg Sum.inl a3]
          refine ⟨(by first | assumption | exact vp_in_nI (by simp only [alen]; omega) (by decide)), ?_⟩
          try rw [nI_clamp (by omega)]
          iterate 11 refine hS _ _ _ _ ?_
          skip
          refine ih _ ((a1.tr (F11.mu (by omega))).tr (F11.mu (by omega))) ((mz_sl (by decide)).trans ((mz_sl (by decide)).trans a2)) ?_ ?_ (by omega) a4
          · rw [mz_at, nI_succ]
            show M1 11 0 0 3 + 1 = _
            rw [a3]
          · rw [mz_sl (by decide), mz_at, ev, ← ef, ← a5]
  iterate 3 refine hS _ _ _ _ ?_
  exact lp _ (F11.mu (by omega)) ((mz_sl (by decide)).trans e2) ((mz_sl (by decide)).trans e3) (by rw [mz_at, Nat.sub_self]; rfl)
theorem sp_goOn {T : TK} (hd : 4 ≤ d) (hn : n ≤ 96) (he : T.2.1 ≤ n) (hk : T.2.2.1 ≤ 4) (hT : CT M n f T) (hQ : ∀ M1, F11 M M1 → CT M1 n f (nt f n T) → Q none M1) : Td PR d 33 [.inr (11, 0, 0)] M Q := by
  obtain ⟨e1, hf, e2, e3, e4, -⟩ := hT
  unfold nt at hQ
  generalize hW : (T.2.2.1 = 2 ∨ T.2.2.1 = 3) = W at hQ
  generalize T.2.1 = p at *
  have hle := rn_le (P := sps) (f := f) (n - p) p
  generalize hs : rn sps f p (n - p) = s at *
  have hsn : s ≤ n := by omega
  have z1 : ∀ M1, F11 M M1 → M1 11 0 0 1 = nI n := fun M1 a => (a.2 1 (by decide) (by decide) (by decide) (by decide)).trans e1
  have zf : ∀ M1, F11 M M1 → ∀ i, i < n → M1 12 0 0 i = f i := fun M1 a i hi => by rw [a.1 12 (by decide)]; exact hf i hi
  obtain ⟨e, rfl⟩ : ∃ e, d = e + 1 := ⟨d - 1, by omega⟩
  refine td_X4_goOn ?_
  intro S hS
  have post : ∀ M1 k e v, k ≤ 4 → F11 M M1 → M1 11 0 0 2 = nI s → M1 11 0 0 3 = nI e → M1 11 0 0 4 = nI k → (k = 3 → M1 11 0 0 5 = v) → tk f n p W = (s, e, @ite _ (W ∧ s = p ∧ (k = 2 ∨ k = 3)) (Classical.propDecidable _) 4 k, v) → S 148 [some (.inr (11, 0, 0)), some (.inl (nI p)), some (.inl (bI W))] [] M1 := by
    intro M1 k e v hk4 a1 a2 a3 a4 a5 et
    rw [et] at hQ
    have keep : ¬ (W ∧ s = p ∧ (k = 2 ∨ k = 3)) → Q none M1 := fun z => hQ M1 a1 ⟨z1 M1 a1, zf M1 a1, a2, a3, by rw [if_neg z]; exact a4, by rw [if_neg z]; exact a5⟩
    iterate 2 refine hS _ _ _ _ ?_
    refine And.intro (fun h149 => ?_) (fun h149 => ?_)
    · have hw := bI_f h149
      refine hS _ _ _ _ ?_
      exact keep (fun z => hw z.1)
    · have hw := bI_t h149
      iterate 4 refine hS _ _ _ _ ?_
      refine And.intro (fun h157 => ?_) (fun h157 => ?_)
      · rw [a2] at h157
        refine hS _ _ _ _ ?_
        exact keep (fun z => h157 (congrArg nI z.2.1))
      · rw [a2] at h157
        have hp := (nI_eq (by omega) (by omega)).mp h157
        iterate 4 refine hS _ _ _ _ ?_
        refine And.intro (fun h165 => ?_) (fun h165 => ?_)
        · rw [a4] at h165
          have hk2 := (nI_eq (b := 2) (by omega) (by decide)).mp h165
          have hy : W ∧ s = p ∧ (k = 2 ∨ k = 3) := ⟨hw, hp, Or.inl hk2⟩
          iterate 4 refine hS _ _ _ _ ?_
          have b1 : F11 M (mu M1 11 0 0 4 4) := a1.tr (F11.mu (by omega))
          exact hQ _ b1 ⟨z1 _ b1, zf _ b1, (mz_sl (by decide)).trans a2, (mz_sl (by decide)).trans a3, by rw [if_pos hy]; exact mz_at, fun y => by rw [if_pos hy] at y; exact absurd y (show ¬ (4 : Nat) = 3 by decide)⟩
        · rw [a4] at h165
          iterate 4 refine hS _ _ _ _ ?_
          refine And.intro (fun h173 => ?_) (fun h173 => ?_)
          · rw [a4] at h173
            refine hS _ _ _ _ ?_
            exact keep (fun z => z.2.2.elim (fun y => h165 (congrArg nI y)) (fun y => h173 (congrArg nI y)))
          · rw [a4] at h173
            have hk3 := (nI_eq (b := 3) (by omega) (by decide)).mp h173
            have hy : W ∧ s = p ∧ (k = 2 ∨ k = 3) := ⟨hw, hp, Or.inr hk3⟩
            iterate 4 refine hS _ _ _ _ ?_
            have b1 : F11 M (mu M1 11 0 0 4 4) := a1.tr (F11.mu (by omega))
            exact hQ _ b1 ⟨z1 _ b1, zf _ b1, (mz_sl (by decide)).trans a2, (mz_sl (by decide)).trans a3, by rw [if_pos hy]; exact mz_at, fun y => by rw [if_pos hy] at y; exact absurd y (show ¬ (4 : Nat) = 3 by decide)⟩
  have aft : ∀ M1, F11 M M1 → M1 11 0 0 2 = nI s → S 70 [some (.inr (11, 0, 0)), some (.inl (nI p)), some (.inl (bI W))] [] M1 := by
    intro M1 a1 a2
    have b1 : F11 M (mu M1 11 0 0 3 (M1 11 0 0 2)) := a1.tr (F11.mu (by omega))
    have b2 : mu M1 11 0 0 3 (M1 11 0 0 2) 11 0 0 2 = nI s := (mz_sl (by decide)).trans a2
    have b3 : mu M1 11 0 0 3 (M1 11 0 0 2) 11 0 0 3 = nI s := mz_at.trans a2
    have b0 := z1 _ b1
    have bf := zf _ b1
    have g2 : gfv (mu M1 11 0 0 3 (M1 11 0 0 2)) 11 0 0 2 = .inl (nI s) := congrArg Sum.inl b2
    iterate 9 refine hS _ _ _ _ ?_
    refine And.intro (fun h86 => ?_) (fun h86 => ?_)
    · have h86' : nI s < nI n := by rw [← b2, ← b0]; exact h86
      have hlt : s < n := Nat.lt_of_not_le fun z => absurd h86' (nI_nlt z (by omega))
      iterate 4 refine hS _ _ _ _ ?_
      rw [g2]
      refine sp_isDigit (by omega) (by omega) ?_
      rw [bf s hlt]
      refine hS _ _ _ _ ?_
      refine And.intro (fun h105 => ?_) (fun h105 => ?_)
      · replace h105 := bI_f h105
        iterate 4 refine hS _ _ _ _ ?_
        rw [g2]
        refine sp_isLetter (by omega) (by omega) ?_
        rw [bf s hlt]
        refine hS _ _ _ _ ?_
        refine And.intro (fun h123 => ?_) (fun h123 => ?_)
        · replace h123 := bI_f h123
          iterate 9 refine hS _ _ _ _ ?_
          refine post _ 1 (s + 1) (f s) (by omega) ((b1.tr (F11.mu (by omega))).tr (F11.mu (by omega))) ((mz_sl (by decide)).trans ((mz_sl (by decide)).trans b2)) ?_ ((mz_sl (by decide)).trans mz_at) (fun y => absurd y (by decide)) ((tk_s (w := W) hs (by omega) h105 h123).trans ?_)
          · rw [mz_at, nI_succ, ← b2, mz_sl (by decide)]
          · rw [if_neg (fun z => z.2.2.elim (by decide) (by decide))]
        · replace h123 := bI_t h123
          iterate 2 refine hS _ _ _ _ ?_
          refine sp_readLetters (n := n) (s := s) (f := f) (by omega) hn hsn b0 bf b3 (fun M3 c1 c2 c3 c4 => ?_)
          have et := tk_l (w := W) hs (by omega) h105 h123
          generalize rn lts f s (n - s) = R at *
          refine hS _ _ _ _ ?_
          refine post M3 2 R (f s) (by omega) (b1.tr c1) (c2.trans b2) c3 c4 (fun y => absurd y (by decide)) (et.trans ?_)
          by_cases y : W ∧ s = p
          · rw [if_pos y, if_pos ⟨y.1, y.2, Or.inl rfl⟩]
          · rw [if_neg y, if_neg (fun z => y ⟨z.1, z.2.1⟩)]
      · replace h105 := bI_t h105
        iterate 2 refine hS _ _ _ _ ?_
        refine sp_readNumber (n := n) (s := s) (f := f) (by omega) hn hsn b0 bf b2 b3 (fun M3 c1 c2 c3 c4 c5 => ?_)
        have et := tk_d (w := W) hs (by omega) h105
        generalize rn dgs f s (n - s) = R at *
        refine hS _ _ _ _ ?_
        skip
        by_cases g : 4 < R - s
        · rw [if_pos g] at c4
          refine post M3 4 R (nvF f s (R - s)) (by omega) (b1.tr c1) c2 c3 c4 (fun y => absurd y (by decide)) (et.trans ?_)
          rw [if_pos (Or.inl g), if_neg (fun z => z.2.2.elim (by decide) (by decide))]
        · rw [if_neg g] at c4
          refine post M3 3 R (nvF f s (R - s)) (by omega) (b1.tr c1) c2 c3 c4 (fun _ => c5) (et.trans ?_)
          by_cases y : W ∧ s = p
          · rw [if_pos (Or.inr y), if_pos ⟨y.1, y.2, Or.inr rfl⟩]
          · rw [if_neg (fun z => z.elim g y), if_neg (fun z => y ⟨z.1, z.2.1⟩)]
    · have h86' : ¬ nI s < nI n := by rw [← b2, ← b0]; exact h86
      have hsE : s = n := Nat.le_antisymm hsn (Nat.le_of_not_lt fun z => h86' (nI_lt z (by omega)))
      iterate 4 refine hS _ _ _ _ ?_
      refine post _ 0 s 0 (by omega) (b1.tr (F11.mu (by omega))) ((mz_sl (by decide)).trans b2) ((mz_sl (by decide)).trans b3) mz_at (fun y => absurd y (by decide)) ((tk_e hs hsE).trans ?_)
      rw [if_neg (fun z => z.2.2.elim (by decide) (by decide))]
  have lp : ∀ b M1, b = bI W → F11 M M1 → M1 11 0 0 2 = nI p → S 32 [some (.inr (11, 0, 0)), some (.inl (nI p)), some (.inl b)] [] M1 := by
    intro b M1 hb a1 a2
    subst hb
    refine lp_up (T := fun i => ∀ M1, F11 M M1 → M1 11 0 0 2 = nI i → rn sps f i (n - i) = s → S 32 [some (.inr (11, 0, 0)), some (.inl (nI p)), some (.inl (bI W))] [] M1) (N := n) ?_ ?_ p he M1 a1 a2 hs
    · intro M1 a1 a2 a4
      have e1' := z1 M1 a1
      rw [Nat.sub_self] at a4
      iterate 5 refine hS _ _ _ _ ?_
      refine And.intro (fun h40 => ?_) (fun h40 => ?_)
      · exact aft M1 a1 (a2.trans (congrArg nI a4))
      · exact (by rw [e1', a2] at h40; exact (lp_x rfl h40).elim)
    · intro i hi ih M1 a1 a2 a4
      have e1' := z1 M1 a1
      have ef := zf M1 a1 i hi
      rw [show n - i = (n - (i + 1)) + 1 by omega] at a4
      iterate 5 refine hS _ _ _ _ ?_
      refine And.intro (fun h40 => ?_) (fun h40 => ?_)
      · exact (by rw [e1', a2] at h40; exact (lp_s rfl hi (by omega) h40).elim)
      · iterate 5 refine hS _ _ _ _ ?_
        rw [show gfv M1 11 0 0 2 = .inl (nI i) from congrArg Sum.inl a2]
        refine ⟨(by first | assumption | exact vp_in_nI (by simp only [alen]; omega) (by decide)), ?_⟩
        try rw [nI_clamp (by omega)]
        iterate 2 refine hS _ _ _ _ ?_
        refine And.intro (fun h54 => ?_) (fun h54 => ?_)
        · rw [ef] at h54
          rw [rn_f h54] at a4
          exact aft M1 a1 (a2.trans (congrArg nI a4))
        · rw [ef] at h54
          rw [rn_t h54] at a4
          iterate 7 refine hS _ _ _ _ ?_
          exact ih _ (a1.tr (F11.mu (by omega))) (by rw [mz_at, nI_succ]; exact congrArg (· + 1) a2) a4
  iterate 7 refine hS _ _ _ _ ?_
  refine And.intro (fun h10 => ?_) (fun h10 => ?_)
  · rw [e4] at h10
    have hbw : (1 : Int32) = bI W := (bI_p (hW ▸ Or.inl ((nI_eq (b := 2) (by omega) (by decide)).mp h10))).symm
    iterate 6 refine hS _ _ _ _ ?_
    rw [show M 11 0 0 3 = nI p from e3]
    exact lp _ _ hbw (F11.mu (by omega)) mz_at
  · rw [e4] at h10
    iterate 4 refine hS _ _ _ _ ?_
    refine And.intro (fun h18 => ?_) (fun h18 => ?_)
    · rw [e4] at h18
      have hbw : (0 : Int32) = bI W := (bI_n (fun z => (hW.symm ▸ z).elim (fun y => h10 (congrArg nI y)) (fun y => h18 (congrArg nI y)))).symm
      iterate 5 refine hS _ _ _ _ ?_
      rw [show M 11 0 0 3 = nI p from e3]
      exact lp _ _ hbw (F11.mu (by omega)) mz_at
    · rw [e4] at h18
      have hbw : (1 : Int32) = bI W := (bI_p (hW ▸ Or.inr ((nI_eq (b := 3) (by omega) (by decide)).mp h18))).symm
      iterate 6 refine hS _ _ _ _ ?_
      rw [show M 11 0 0 3 = nI p from e3]
      exact lp _ _ hbw (F11.mu (by omega)) mz_at
end W37
