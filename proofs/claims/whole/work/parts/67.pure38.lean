-- 67.pure38: words of a text, read by the reference
def rkT (k : Nat) : Int32 := if k = 0 then 0 else if k = 1 then 3 else if k = 2 then 1 else if k = 3 then 2 else 4
/-- the reference stands at a word -/
def RT (M : Mem) (n : Nat) (f : FA) (T : TK) : Prop := M 30 0 0 10 = nI n ∧ (∀ i, i < n → M 40 0 0 i = f i) ∧ M 30 0 0 12 = nI T.1 ∧ M 30 0 0 11 = nI T.2.1 ∧ M 30 0 0 13 = rkT T.2.2.1 ∧ (T.2.2.1 = 1 ∨ T.2.2.1 = 2 ∨ T.2.2.1 = 3 → M 30 0 0 14 = T.2.2.2)
/-- and can go on from it -/
def RGo (M : Mem) (T : TK) : Prop := (M 30 0 0 15 = nI T.2.1 ↔ (T.2.2.1 = 2 ∨ T.2.2.1 = 3)) ∧ (M 30 0 0 15 = -1 ∨ ∃ q, q ≤ T.2.1 ∧ M 30 0 0 15 = nI q)
def F30 (M M1 : Mem) : Prop := (∀ k, k ≠ 30 → M1 k = M k) ∧ ∀ j, j < 11 ∨ 15 < j → M1 30 0 0 j = M 30 0 0 j
theorem F30.rf {M : Mem} : F30 M M := ⟨fun _ _ => rfl, fun _ _ => rfl⟩
theorem F30.tr {M M' M'' : Mem} (h : F30 M M') (h' : F30 M' M'') : F30 M M'' := ⟨fun k a => (h'.1 k a).trans (h.1 k a), fun j a => (h'.2 j a).trans (h.2 j a)⟩
theorem F30.mu {M : Mem} {j : Nat} {v : Int32} (h : 11 ≤ j ∧ j ≤ 15) : F30 M (mu M 30 0 0 j v) := ⟨fun _ a => mz_k a, fun _ a => mz_sl (by omega)⟩
def nv4 (f : FA) (s m : Nat) : Int32 := if m < 4 then nvF f s m else nvF f s 4
theorem nv4_le {f : FA} {s m : Nat} (h : ¬ 4 < m) : nv4 f s m = nvF f s m := by
  unfold nv4
  by_cases z : m < 4
  · rw [if_pos z]
  · rw [if_neg z, show m = 4 by omega]
theorem nv4_s {f : FA} {s m : Nat} (h : m < 4) : nv4 f s (m + 1) = 10 * nv4 f s m + f (s + m) - 48 := by
  rw [nv4_le (by omega), nv4_le (by omega), Int32.mul_comm]
  rfl
theorem nv4_k {f : FA} {s m : Nat} (h : ¬ m < 4) : nv4 f s (m + 1) = nv4 f s m := by
  unfold nv4
  rw [if_neg h, if_neg (by omega)]
theorem lts_dgs {x : Int32} (h : lts x) : ¬ dgs x := fun z => by
  have h1 := Int32.not_lt.mp h.1
  have h2 := Int32.not_lt.mp z.2
  exact absurd (Int32.le_trans h1 h2) (by decide)
section W38
variable {d n p s : Nat} {M : Mem} {Q : PQ} {f : FA}
theorem sm_isLetter (hd : 1 ≤ d) (hn : n ≤ 96) (hp : p ≤ 96) (e1 : M 30 0 0 10 = nI n) (hQ : Q (some (.inl (bI (p < n ∧ lts (M 40 0 0 p))))) M) : Td PR d 184 [.inr (30, 0, 0), .inl (nI p)] M Q := by
  obtain ⟨e, rfl⟩ : ∃ e, d = e + 1 := ⟨d - 1, by omega⟩
  refine td_X10_isLetter ?_
  intro S hS
  iterate 4 refine hS _ _ _ _ ?_
  refine And.intro (fun h5 => ?_) (fun h5 => ?_)
  · rw [e1] at h5
    iterate 2 refine hS _ _ _ _ ?_
    refine ⟨rfl, ?_⟩
    exact qv hQ (bI_n (fun z => nI_ge z.1 (by omega) h5))
  · rw [e1] at h5
    have hlt : p < n := Nat.lt_of_not_le fun z => h5 (nI_le z (by omega))
    iterate 4 refine hS _ _ _ _ ?_
    refine ⟨(by first | assumption | exact vp_in_nI (by simp only [alen]; omega) (by decide)), ?_⟩
    try rw [nI_clamp (by omega)]
    iterate 2 refine hS _ _ _ _ ?_
    refine And.intro (fun h16 => ?_) (fun h16 => ?_)
    · iterate 2 refine hS _ _ _ _ ?_
      refine ⟨rfl, ?_⟩
      exact qv hQ (bI_n (fun z => z.2.1 h16))
    · iterate 4 refine hS _ _ _ _ ?_
      refine ⟨(by first | assumption | exact vp_in_nI (by simp only [alen]; omega) (by decide)), ?_⟩
      try rw [nI_clamp (by omega)]
      iterate 2 refine hS _ _ _ _ ?_
      refine And.intro (fun h27 => ?_) (fun h27 => ?_)
      · iterate 2 refine hS _ _ _ _ ?_
        refine ⟨rfl, ?_⟩
        exact qv hQ (bI_n (fun z => z.2.2 h27))
      · iterate 3 refine hS _ _ _ _ ?_
        refine ⟨rfl, ?_⟩
        exact qv hQ (bI_p ⟨hlt, h16, h27⟩)
theorem sm_isFigure (hd : 1 ≤ d) (hn : n ≤ 96) (hp : p ≤ 96) (e1 : M 30 0 0 10 = nI n) (hQ : Q (some (.inl (bI (p < n ∧ dgs (M 40 0 0 p))))) M) : Td PR d 185 [.inr (30, 0, 0), .inl (nI p)] M Q := by
  obtain ⟨e, rfl⟩ : ∃ e, d = e + 1 := ⟨d - 1, by omega⟩
  refine td_X10_isFigure ?_
  intro S hS
  iterate 4 refine hS _ _ _ _ ?_
  refine And.intro (fun h5 => ?_) (fun h5 => ?_)
  · rw [e1] at h5
    iterate 2 refine hS _ _ _ _ ?_
    refine ⟨rfl, ?_⟩
    exact qv hQ (bI_n (fun z => nI_ge z.1 (by omega) h5))
  · rw [e1] at h5
    have hlt : p < n := Nat.lt_of_not_le fun z => h5 (nI_le z (by omega))
    iterate 4 refine hS _ _ _ _ ?_
    refine ⟨(by first | assumption | exact vp_in_nI (by simp only [alen]; omega) (by decide)), ?_⟩
    try rw [nI_clamp (by omega)]
    iterate 2 refine hS _ _ _ _ ?_
    refine And.intro (fun h16 => ?_) (fun h16 => ?_)
    · iterate 2 refine hS _ _ _ _ ?_
      refine ⟨rfl, ?_⟩
      exact qv hQ (bI_n (fun z => z.2.1 h16))
    · iterate 4 refine hS _ _ _ _ ?_
      refine ⟨(by first | assumption | exact vp_in_nI (by simp only [alen]; omega) (by decide)), ?_⟩
      try rw [nI_clamp (by omega)]
      iterate 2 refine hS _ _ _ _ ?_
      refine And.intro (fun h27 => ?_) (fun h27 => ?_)
      · iterate 2 refine hS _ _ _ _ ?_
        refine ⟨rfl, ?_⟩
        exact qv hQ (bI_n (fun z => z.2.2 h27))
      · iterate 3 refine hS _ _ _ _ ?_
        refine ⟨rfl, ?_⟩
        exact qv hQ (bI_p ⟨hlt, h16, h27⟩)
theorem sm_go {W : Prop} (hd : 4 ≤ d) (hn : n ≤ 96) (he : p ≤ n) (e1 : M 30 0 0 10 = nI n) (hf : ∀ i, i < n → M 40 0 0 i = f i) (e3 : M 30 0 0 11 = nI p) (hg : (M 30 0 0 15 = nI p ↔ W) ∧ (M 30 0 0 15 = -1 ∨ ∃ q, q ≤ p ∧ M 30 0 0 15 = nI q)) (hQ : ∀ M1, F30 M M1 → RT M1 n f (tk f n p W) → ((tk f n p W).2.2.1 ≠ 0 → (tk f n p W).2.2.1 ≠ 4 → RGo M1 (tk f n p W)) → Q none M1) : Td PR d 186 [.inr (30, 0, 0)] M Q := by
  have hle := rn_le (P := sps) (f := f) (n - p) p
  generalize hs : rn sps f p (n - p) = s at *
  have hsn : s ≤ n := by omega
  have hcl : (nI s = M 30 0 0 15) ↔ (W ∧ s = p) := by
    constructor
    · intro z
      rcases hg.2 with y | ⟨q, hq, y⟩
      · exact absurd (show nI s < 0 by rw [z, y]; decide) (nI_pos (by omega))
      · have hsq := (nI_eq (by omega) (by omega)).mp (z.trans y)
        have hsp : s = p := by omega
        exact ⟨hg.1.mp (by rw [← z, hsp]), hsp⟩
    · intro z
      rw [z.2]
      exact (hg.1.mpr z.1).symm
  have z1 : ∀ M1, F30 M M1 → M1 30 0 0 10 = nI n := fun M1 a => (a.2 10 (by decide)).trans e1
  have zf : ∀ M1, F30 M M1 → ∀ i, i < n → M1 40 0 0 i = f i := fun M1 a i hi => by rw [a.1 40 (by decide)]; exact hf i hi
  obtain ⟨e, rfl⟩ : ∃ e, d = e + 1 := ⟨d - 1, by omega⟩
  refine td_X10_go ?_
  intro S hS
  have finL : ∀ b M1 R, ¬ s = n → lts (f s) → rn lts f s (n - s) = R → b = bI (W ∧ s = p) → F30 M M1 → M1 30 0 0 11 = nI R → M1 30 0 0 12 = nI s → S 117 [some (.inr (30, 0, 0)), some (.inl b)] [] M1 := by
    intro b M1 R hsE hL hR hb a1 a2 a3
    have et := tk_l (w := W) hs hsE (lts_dgs hL) hL
    rw [hR] at et
    rw [et] at hQ
    have fin : ∀ x, x = rkT (@ite _ (W ∧ s = p) (Classical.propDecidable _) 4 2) → Q none (mu (mu (mu M1 30 0 0 13 x) 30 0 0 14 (f s)) 30 0 0 15 (nI R)) := by
      intro x hx
      have b1 : F30 M (mu (mu (mu M1 30 0 0 13 x) 30 0 0 14 (f s)) 30 0 0 15 (nI R)) := ((a1.tr (F30.mu (by omega))).tr (F30.mu (by omega))).tr (F30.mu (by omega))
      refine hQ _ b1 ⟨z1 _ b1, zf _ b1, ?_, ?_, ?_, fun _ => ?_⟩ (fun _ y => ⟨⟨fun _ => ?_, fun _ => mz_at⟩, Or.inr ⟨R, Nat.le_refl _, mz_at⟩⟩)
      · rw [mz_sl (by decide), mz_sl (by decide), mz_sl (by decide)]; exact a3
      · rw [mz_sl (by decide), mz_sl (by decide), mz_sl (by decide)]; exact a2
      · rw [mz_sl (by decide), mz_sl (by decide), mz_at]; exact hx
      · rw [mz_sl (by decide), mz_at]
      · by_cases z : W ∧ s = p
        · rw [if_pos z] at y; exact absurd rfl y
        · rw [if_neg z]; exact Or.inl rfl
    have rd : ∀ x, gfv (mu M1 30 0 0 13 x) 30 0 0 12 = .inl (nI s) := fun x => congrArg Sum.inl ((mz_sl (by decide)).trans a3)
    have rf : ∀ x, mu M1 30 0 0 13 x 40 0 0 s = f s := fun x => by rw [mz_k (by decide)]; exact zf M1 a1 s (by omega)
    have rn : ∀ x y, mu (mu M1 30 0 0 13 x) 30 0 0 14 y 30 0 0 11 = nI R := fun x y => by rw [mz_sl (by decide), mz_sl (by decide)]; exact a2
    iterate 3 refine hS _ _ _ _ ?_
    refine And.intro (fun h119 => ?_) (fun h119 => ?_)
    · have hw : ¬ (W ∧ s = p) := bI_f (hb ▸ h119)
      iterate 8 refine hS _ _ _ _ ?_
      rw [rd]
      refine ⟨(by first | assumption | exact vp_in_nI (by simp only [alen]; omega) (by decide)), ?_⟩
      try rw [nI_clamp (by omega)]
      iterate 7 refine hS _ _ _ _ ?_
      have := fin 1 (by rw [if_neg hw]; rfl)
      rw [← rf 1, ← rn 1 (mu M1 30 0 0 13 1 40 0 0 s)] at this
      exact this
    · have hw : W ∧ s = p := bI_t (hb ▸ h119)
      iterate 9 refine hS _ _ _ _ ?_
      rw [rd]
      refine ⟨(by first | assumption | exact vp_in_nI (by simp only [alen]; omega) (by decide)), ?_⟩
      try rw [nI_clamp (by omega)]
      iterate 7 refine hS _ _ _ _ ?_
      have := fin 4 (by rw [if_pos hw]; rfl)
      rw [← rf 4, ← rn 4 (mu M1 30 0 0 13 4 40 0 0 s)] at this
      exact this
  have ll : ∀ b M1, ¬ s = n → lts (f s) → b = bI (W ∧ s = p) → F30 M M1 → M1 30 0 0 11 = nI s → M1 30 0 0 12 = nI s → S 93 [some (.inr (30, 0, 0)), some (.inl b)] [] M1 := by
    intro b M1 hsE hL hb a1 a2 a3
    generalize hR : rn lts f s (n - s) = R
    refine lp_up (T := fun i => ∀ M1, F30 M M1 → M1 30 0 0 11 = nI i → M1 30 0 0 12 = nI s → rn lts f i (n - i) = R → S 93 [some (.inr (30, 0, 0)), some (.inl b)] [] M1) (N := n) ?_ ?_ s hsn M1 a1 a2 a3 hR
    · intro M1 a1 a2 a3 a4
      rw [Nat.sub_self] at a4
      have a4' : n = R := a4
      iterate 4 refine hS _ _ _ _ ?_
      rw [show gfv M1 30 0 0 11 = .inl (nI n) from congrArg Sum.inl a2]
      refine sm_isLetter (n := n) (by omega) hn (by omega) (z1 M1 a1) ?_
      refine hS _ _ _ _ ?_
      refine And.intro (fun h101 => ?_) (fun h101 => ?_)
      · replace h101 := bI_f h101
        exact finL b M1 R hsE hL hR hb a1 (a4' ▸ a2) a3
      · replace h101 := bI_t h101
        exact absurd h101.1 (by omega)
    · intro i hi ih M1 a1 a2 a3 a4
      rw [show n - i = (n - (i + 1)) + 1 by omega] at a4
      iterate 4 refine hS _ _ _ _ ?_
      rw [show gfv M1 30 0 0 11 = .inl (nI i) from congrArg Sum.inl a2]
      refine sm_isLetter (n := n) (by omega) hn (by omega) (z1 M1 a1) ?_
      rw [zf M1 a1 i hi]
      refine hS _ _ _ _ ?_
      refine And.intro (fun h101 => ?_) (fun h101 => ?_)
      · replace h101 := bI_f h101
        rw [rn_f (fun z => h101 ⟨hi, z⟩)] at a4
        exact finL b M1 R hsE hL hR hb a1 (a4 ▸ a2) a3
      · replace h101 := bI_t h101
        rw [rn_t h101.2] at a4
        iterate 7 refine hS _ _ _ _ ?_
        exact ih _ (a1.tr (F30.mu (by omega))) (by rw [mz_at, nI_succ]; exact congrArg (· + 1) a2) ((mz_sl (by decide)).trans a3) a4
  have finF : ∀ b M1 R, ¬ s = n → dgs (f s) → rn dgs f s (n - s) = R → s ≤ R → R ≤ n → b = bI (W ∧ s = p) → F30 M M1 → M1 30 0 0 11 = nI R → M1 30 0 0 12 = nI s → M1 30 0 0 14 = nv4 f s (R - s) → S 238 [some (.inr (30, 0, 0)), some (.inl b)] [] M1 := by
    intro b M1 R hsE hD hR hsR hRn hb a1 a2 a3 a5
    have et := tk_d (w := W) hs hsE hD
    rw [hR] at et
    rw [et] at hQ
    have fin : ∀ x, x = rkT (@ite _ (4 < R - s ∨ (W ∧ s = p)) (Classical.propDecidable _) 4 3) → Q none (mu (mu M1 30 0 0 13 x) 30 0 0 15 (nI R)) := by
      intro x hx
      have b1 : F30 M (mu (mu M1 30 0 0 13 x) 30 0 0 15 (nI R)) := (a1.tr (F30.mu (by omega))).tr (F30.mu (by omega))
      refine hQ _ b1 ⟨z1 _ b1, zf _ b1, ?_, ?_, ?_, fun y => ?_⟩ (fun _ y => ⟨⟨fun _ => ?_, fun _ => mz_at⟩, Or.inr ⟨R, Nat.le_refl _, mz_at⟩⟩)
      · rw [mz_sl (by decide), mz_sl (by decide)]; exact a3
      · rw [mz_sl (by decide), mz_sl (by decide)]; exact a2
      · rw [mz_sl (by decide), mz_at]; exact hx
      · rw [mz_sl (by decide), mz_sl (by decide), a5]
        by_cases z : 4 < R - s ∨ (W ∧ s = p)
        · rw [if_pos z] at y; exact absurd y (show ¬ ((4 : Nat) = 1 ∨ (4 : Nat) = 2 ∨ (4 : Nat) = 3) by decide)
        · exact nv4_le (fun w => z (Or.inl w))
      · by_cases z : 4 < R - s ∨ (W ∧ s = p)
        · rw [if_pos z] at y; exact absurd rfl y
        · rw [if_neg z]; exact Or.inr rfl
    have rn : ∀ x, mu M1 30 0 0 13 x 30 0 0 11 = nI R := fun x => (mz_sl (by decide)).trans a2
    have es : M1 30 0 0 11 - M1 30 0 0 12 = nI (R - s) := by rw [a2, a3]; exact nI_sub (by omega)
    iterate 3 refine hS _ _ _ _ ?_
    refine And.intro (fun h240 => ?_) (fun h240 => ?_)
    · have hw : W ∧ s = p := bI_t (hb ▸ h240)
      iterate 9 refine hS _ _ _ _ ?_
      have := fin 4 (by rw [if_pos (Or.inr hw)]; rfl)
      rw [← rn 4] at this
      exact this
    · have hw : ¬ (W ∧ s = p) := bI_f (hb ▸ h240)
      iterate 7 refine hS _ _ _ _ ?_
      refine And.intro (fun h253 => ?_) (fun h253 => ?_)
      · have g : ¬ 4 < R - s := fun z => by rw [es] at h253; exact nI_ge z (by omega) h253
        iterate 8 refine hS _ _ _ _ ?_
        have := fin 2 (by rw [if_neg (fun z => z.elim g hw)]; rfl)
        rw [← rn 2] at this
        exact this
      · have g : 4 < R - s := Nat.lt_of_not_le fun z => h253 (by rw [es]; exact nI_le z (by decide))
        iterate 9 refine hS _ _ _ _ ?_
        have := fin 4 (by rw [if_pos (Or.inl g)]; rfl)
        rw [← rn 4] at this
        exact this
  have fl : ∀ b M1, ¬ s = n → dgs (f s) → b = bI (W ∧ s = p) → F30 M M1 → M1 30 0 0 11 = nI s → M1 30 0 0 12 = nI s → M1 30 0 0 14 = 0 → S 170 [some (.inr (30, 0, 0)), some (.inl b)] [] M1 := by
    intro b M1 hsE hD hb a1 a2 a3 a5
    generalize hR : rn dgs f s (n - s) = R
    have hRl := rn_le (P := dgs) (f := f) (n - s) s
    rw [hR] at hRl
    refine lp_up (T := fun i => ∀ M1, F30 M M1 → M1 30 0 0 11 = nI i → M1 30 0 0 12 = nI s → M1 30 0 0 14 = nv4 f s (i - s) → s ≤ i → rn dgs f i (n - i) = R → S 170 [some (.inr (30, 0, 0)), some (.inl b)] [] M1) (N := n) ?_ ?_ s hsn M1 a1 a2 a3 (by rw [Nat.sub_self]; exact a5) (Nat.le_refl _) hR
    · intro M1 a1 a2 a3 a5 a6 a4
      rw [Nat.sub_self] at a4
      have a4' : n = R := a4
      iterate 4 refine hS _ _ _ _ ?_
      rw [show gfv M1 30 0 0 11 = .inl (nI n) from congrArg Sum.inl a2]
      refine sm_isFigure (n := n) (by omega) hn (by omega) (z1 M1 a1) ?_
      refine hS _ _ _ _ ?_
      refine And.intro (fun h178 => ?_) (fun h178 => ?_)
      · replace h178 := bI_f h178
        exact finF b M1 R hsE hD hR hRl.1 (by omega) hb a1 (a4' ▸ a2) a3 (a4' ▸ a5)
      · replace h178 := bI_t h178
        exact absurd h178.1 (by omega)
    · intro i hi ih M1 a1 a2 a3 a5 a6 a4
      have es : M1 30 0 0 11 - M1 30 0 0 12 = nI (i - s) := by rw [a2, a3]; exact nI_sub a6
      have ef := zf M1 a1 i hi
      rw [show n - i = (n - (i + 1)) + 1 by omega] at a4
      have ei : i + 1 - s = (i - s) + 1 := by omega
      have ex : s + (i - s) = i := by omega
      iterate 4 refine hS _ _ _ _ ?_
      rw [show gfv M1 30 0 0 11 = .inl (nI i) from congrArg Sum.inl a2]
      refine sm_isFigure (n := n) (by omega) hn (by omega) (z1 M1 a1) ?_
      rw [ef]
      refine hS _ _ _ _ ?_
      refine And.intro (fun h178 => ?_) (fun h178 => ?_)
      · replace h178 := bI_f h178
        rw [rn_f (fun z => h178 ⟨hi, z⟩)] at a4
        exact finF b M1 R hsE hD hR hRl.1 (by omega) hb a1 (a4 ▸ a2) a3 (a4 ▸ a5)
      · replace h178 := bI_t h178
        rw [rn_t h178.2] at a4
        iterate 8 refine hS _ _ _ _ ?_
        refine And.intro (fun h192 => ?_) (fun h192 => ?_)
        · have g : ¬ i - s < 4 := fun z => by rw [es] at h192; exact nI_ge z (by decide) h192
          iterate 10 refine hS _ _ _ _ ?_
          refine ih _ ((a1.tr (F30.mu (by omega))).tr (F30.mu (by omega))) ?_ ((mz_sl (by decide)).trans ((mz_sl (by decide)).trans a3)) ?_ (by omega) a4
          · rw [mz_at, nI_succ]
            show M1 30 0 0 11 + 1 = _
            rw [a2]
          · rw [mz_sl (by decide), mz_at, a5, ei, nv4_k g]
        · have g : i - s < 4 := Nat.lt_of_not_le fun z => h192 (by rw [es]; exact nI_le z (by omega))
          iterate 9 refine hS _ _ _ _ ?_
          rw [show gfv M1 30 0 0 11 = .inl (nI i) from congrArg Sum.inl a2]
          refine ⟨(by first | assumption | exact vp_in_nI (by simp only [alen]; omega) (by decide)), ?_⟩
          try rw [nI_clamp (by omega)]
          iterate 12 refine hS _ _ _ _ ?_
          refine ih _ ((a1.tr (F30.mu (by omega))).tr (F30.mu (by omega))) ?_ ((mz_sl (by decide)).trans ((mz_sl (by decide)).trans a3)) ?_ (by omega) a4
          · rw [mz_at, nI_succ]
            show M1 30 0 0 11 + 1 = _
            rw [a2]
          · rw [mz_sl (by decide), mz_at, ei, nv4_s g, ex, ← a5, ← ef]
  have aft : ∀ b o M1, b = bI (W ∧ s = p) → F30 M M1 → M1 30 0 0 11 = nI s → M1 30 0 0 12 = nI s → M1 30 0 0 15 = M 30 0 0 15 → S 62 [some (.inr (30, 0, 0)), o] [.inl b] M1 := by
    intro b o M1 hb a1 a2 a3 a4
    have e1' := z1 M1 a1
    iterate 6 refine hS _ _ _ _ ?_
    refine And.intro (fun h71 => ?_) (fun h71 => ?_)
    · rw [a3, e1'] at h71
      have hsE : ¬ s = n := fun z => h71 (congrArg nI z)
      iterate 4 refine hS _ _ _ _ ?_
      rw [show gfv M1 30 0 0 12 = .inl (nI s) from congrArg Sum.inl a3]
      refine sm_isLetter (n := n) (by omega) hn (by omega) e1' ?_
      rw [zf M1 a1 s (by omega)]
      refine hS _ _ _ _ ?_
      refine And.intro (fun h90 => ?_) (fun h90 => ?_)
      · replace h90 := bI_f h90
        have hL : ¬ lts (f s) := fun z => h90 ⟨by omega, z⟩
        iterate 4 refine hS _ _ _ _ ?_
        rw [show gfv M1 30 0 0 12 = .inl (nI s) from congrArg Sum.inl a3]
        refine sm_isFigure (n := n) (by omega) hn (by omega) e1' ?_
        rw [zf M1 a1 s (by omega)]
        refine hS _ _ _ _ ?_
        refine And.intro (fun h162 => ?_) (fun h162 => ?_)
        · replace h162 := bI_f h162
          have hD : ¬ dgs (f s) := fun z => h162 ⟨by omega, z⟩
          have et := tk_s (w := W) hs hsE hD hL
          iterate 9 refine hS _ _ _ _ ?_
          rw [show gfv (mu M1 30 0 0 13 3) 30 0 0 12 = .inl (nI s) from congrArg Sum.inl ((mz_sl (by decide)).trans a3)]
          refine ⟨(by first | assumption | exact vp_in_nI (by simp only [alen]; omega) (by decide)), ?_⟩
          try rw [nI_clamp (by omega)]
          iterate 8 refine hS _ _ _ _ ?_
          have rf : mu M1 30 0 0 13 3 40 0 0 s = f s := by rw [mz_k (by decide)]; exact zf M1 a1 s (by omega)
          have rx : mu (mu M1 30 0 0 13 3) 30 0 0 14 (f s) 30 0 0 11 + 1 = nI (s + 1) := by rw [mz_sl (by decide), mz_sl (by decide), a2, nI_succ]
          have b1 : F30 M (mu (mu (mu M1 30 0 0 13 3) 30 0 0 14 (f s)) 30 0 0 11 (nI (s + 1))) := ((a1.tr (F30.mu (by omega))).tr (F30.mu (by omega))).tr (F30.mu (by omega))
          rw [et] at hQ
          have b15 : mu (mu (mu M1 30 0 0 13 3) 30 0 0 14 (f s)) 30 0 0 11 (nI (s + 1)) 30 0 0 15 = M 30 0 0 15 := by
            rw [mz_sl (by decide), mz_sl (by decide), mz_sl (by decide)]; exact a4
          have := hQ _ b1 ⟨z1 _ b1, zf _ b1, by rw [mz_sl (by decide), mz_sl (by decide), mz_sl (by decide)]; exact a3, mz_at, by rw [mz_sl (by decide), mz_sl (by decide), mz_at]; rfl, fun _ => by rw [mz_sl (by decide), mz_at]⟩ (fun _ _ => by
            unfold RGo
            rw [b15]
            refine ⟨⟨fun z => ?_, fun z => absurd z (show ¬ ((1 : Nat) = 2 ∨ (1 : Nat) = 3) by decide)⟩, hg.2.imp id (fun ⟨q, hq, y⟩ => ⟨q, Nat.le_succ_of_le (Nat.le_trans hq hle.1), y⟩)⟩
            exfalso
            rcases hg.2 with y | ⟨q, hq, y⟩
            · exact absurd (show nI (s + 1) < 0 by rw [← z, y]; decide) (nI_pos (by omega))
            · have z' : nI q = nI (s + 1) := y.symm.trans z
              have := (nI_eq (by omega) (by omega)).mp z'
              omega)
          rw [← rx, ← rf] at this
          exact this
        · replace h162 := bI_t h162
          iterate 3 refine hS _ _ _ _ ?_
          exact fl b _ hsE h162.2 hb (a1.tr (F30.mu (by omega))) ((mz_sl (by decide)).trans a2) ((mz_sl (by decide)).trans a3) mz_at
      · replace h90 := bI_t h90
        have hL := h90.2
        exact ll b M1 hsE hL hb a1 a2 a3
    · rw [a3, e1'] at h71
      have hsE := (nI_eq (by omega) (by omega)).mp h71
      iterate 5 refine hS _ _ _ _ ?_
      have b1 : F30 M (mu M1 30 0 0 13 0) := a1.tr (F30.mu (by omega))
      refine hQ _ b1 ?_ (fun y => ?_)
      · rw [tk_e hs hsE]
        exact ⟨z1 _ b1, zf _ b1, (mz_sl (by decide)).trans a3, (mz_sl (by decide)).trans a2, mz_at, fun y => absurd y (show ¬ ((0 : Nat) = 1 ∨ (0 : Nat) = 2 ∨ (0 : Nat) = 3) by decide)⟩
      · rw [tk_e hs hsE] at y
        exact absurd rfl y
  have mid : ∀ M1, F30 M M1 → M1 30 0 0 11 = nI s → M1 30 0 0 15 = M 30 0 0 15 → S 38 [some (.inr (30, 0, 0)), none] [] M1 := by
    intro M1 a1 a2 a4
    have b1 : F30 M (mu M1 30 0 0 12 (M1 30 0 0 11)) := a1.tr (F30.mu (by omega))
    have b2 : mu M1 30 0 0 12 (M1 30 0 0 11) 30 0 0 11 = nI s := (mz_sl (by decide)).trans a2
    have b3 : mu M1 30 0 0 12 (M1 30 0 0 11) 30 0 0 12 = nI s := mz_at.trans a2
    have b4 : mu M1 30 0 0 12 (M1 30 0 0 11) 30 0 0 15 = M 30 0 0 15 := (mz_sl (by decide)).trans a4
    iterate 9 refine hS _ _ _ _ ?_
    refine And.intro (fun h54 => ?_) (fun h54 => ?_)
    · rw [b3, b4, hcl] at h54
      refine hS _ _ _ _ ?_
      exact aft 0 _ _ (bI_n h54).symm b1 b2 b3 b4
    · rw [b3, b4, hcl] at h54
      iterate 2 refine hS _ _ _ _ ?_
      exact aft 1 _ _ (bI_p h54).symm b1 b2 b3 b4
  refine lp_up (T := fun i => ∀ M1, F30 M M1 → M1 30 0 0 11 = nI i → M1 30 0 0 15 = M 30 0 0 15 → rn sps f i (n - i) = s → S 0 [some (.inr (30, 0, 0)), none] [] M1) (N := n) ?_ ?_ p he M F30.rf e3 rfl hs
  · intro M1 a1 a2 a3 a4
    have e1' := z1 M1 a1
    rw [Nat.sub_self] at a4
    iterate 5 refine hS _ _ _ _ ?_
    refine And.intro (fun h8 => ?_) (fun h8 => ?_)
    · exact mid M1 a1 (a2.trans (congrArg nI a4)) a3
    · exact (by rw [e1', a2] at h8; exact (lp_x rfl h8).elim)
  · intro i hi ih M1 a1 a2 a3 a4
    have e1' := z1 M1 a1
    have ef := zf M1 a1 i hi
    rw [show n - i = (n - (i + 1)) + 1 by omega] at a4
    iterate 5 refine hS _ _ _ _ ?_
    refine And.intro (fun h8 => ?_) (fun h8 => ?_)
    · exact (by rw [e1', a2] at h8; exact (lp_s rfl hi (by omega) h8).elim)
    · iterate 5 refine hS _ _ _ _ ?_
      rw [show gfv M1 30 0 0 11 = .inl (nI i) from congrArg Sum.inl a2]
      refine ⟨(by first | assumption | exact vp_in_nI (by simp only [alen]; omega) (by decide)), ?_⟩
      try rw [nI_clamp (by omega)]
      iterate 2 refine hS _ _ _ _ ?_
      refine And.intro (fun h22 => ?_) (fun h22 => ?_)
      · rw [ef] at h22
        rw [rn_f h22] at a4
        exact mid M1 a1 (a2.trans (congrArg nI a4)) a3
      · rw [ef] at h22
        rw [rn_t h22] at a4
        iterate 7 refine hS _ _ _ _ ?_
        exact ih _ (a1.tr (F30.mu (by omega))) (by rw [mz_at, nI_succ]; exact congrArg (· + 1) a2) ((mz_sl (by decide)).trans a3) a4
end W38
