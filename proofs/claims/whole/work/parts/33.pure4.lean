-- 33.pure4: texts: what they give, in the class
def phi (v : Int32) : Int32 := if 0 ≤ v then (if v < 10000 then v else 9999 - v) else if v = -1 then -124 else if v = -2 then -38 else if v = -3 then -60 else if v = -4 then -61 else if v = -5 then -62 else if v = -6 then -43 else if v = -7 then -45 else if v = -8 then -42 else if v = -9 then -47 else -33
/-- the class's texts are those of a flat row, below its count -/
def TR (M : Mem) (f : FA) : Prop := ∀ t, t < cT f → M 9 t 0 0 = f (86 + 2 * t) / 1000 ∧ M 9 t 0 2 = irem (f (86 + 2 * t)) 1000 ∧ M 9 t 0 3 = f (87 + 2 * t) ∧ ∀ k, k < lenF f t → M 10 t 0 k = phi (f (114 + 96 * t + k))
def TX (M : Mem) (f : FA) : Prop := cT f ≤ 14 ∧ f 9 = nI (cT f) ∧ TR M f ∧ ∀ t, t < cT f → txOk f t
def TXE (f f' : FA) : Prop := f' 9 = f 9 ∧ ∀ k, 86 ≤ k → f' k = f k
theorem TXE.rf {f : FA} : TXE f f := ⟨rfl, fun _ _ => rfl⟩
theorem TXE.tr {f g h : FA} (a : TXE f g) (b : TXE g h) : TXE f h := ⟨b.1.trans a.1, fun k hk => (b.2 k hk).trans (a.2 k hk)⟩
theorem TXE.ct0 {f f' : FA} (h : TXE f f') : cT f' = cT f := by unfold cT; rw [h.1]
theorem TXE.cx0 {f f' : FA} (h : TXE f f') (t : Nat) : ctx f' t = ctx f t := by funext k; unfold ctx; exact h.2 _ (by omega)
theorem TXE.len0 {f f' : FA} (h : TXE f f') (t : Nat) : lenF f' t = lenF f t := by unfold lenF; rw [h.2 _ (by omega)]
theorem TXE.ct {f f' : FA} (h : TXE f f') (ky : Int32) : ∀ n, countsF f' ky n = countsF f ky n := by
  intro n
  induction n with
  | zero => rfl
  | succ n ih => unfold countsF; rw [h.2 _ (by omega), ih]
theorem TXE.worth {f f' : FA} (h : TXE f f') {t : Nat} {x y z : Int32} : worthT f' t x y z = worthT f t x y z := by unfold worthT; rw [h.cx0, h.len0]
theorem TX.cg {M M' : Mem} {f f' : FA} (h : TX M f) (e : TXE f f') (h9 : M' 9 = M 9) (h10 : M' 10 = M 10) : TX M' f' := by
  obtain ⟨a, a2, b, c⟩ := h
  refine ⟨by rw [e.ct0]; exact a, by rw [e.1, e.ct0]; exact a2, ?_, ?_⟩
  · intro t ht
    rw [e.ct0] at ht
    rw [h9, h10, e.2 _ (by omega), e.2 _ (by omega), e.len0]
    obtain ⟨q1, q2, q3, q4⟩ := b t ht
    refine ⟨q1, q2, q3, fun k hk => ?_⟩
    rw [e.2 _ (by omega)]
    exact q4 k hk
  · intro t ht
    rw [e.ct0] at ht
    obtain ⟨ky, q1, q2, q3⟩ := c t ht
    unfold txOk
    rw [e.len0, e.cx0, e.2 _ (by omega)]
    exact ⟨ky, q1, q2, q3⟩
theorem nI_div1000 : ∀ ky, ky < 3 → ∀ n, n < 97 → nI (1000 * ky + n) / 1000 = nI ky := by decide +kernel
theorem nI_rem1000 : ∀ ky, ky < 3 → ∀ n, n < 97 → irem (nI (1000 * ky + n)) 1000 = nI n := by decide +kernel
theorem txOk.len {f : FA} {t : Nat} (h : txOk f t) : irem (f (86 + 2 * t)) 1000 = nI (lenF f t) ∧ lenF f t ≤ 96 := by
  obtain ⟨ky, h1, h2, h3⟩ := h
  have h4 : lenF f t < 97 := by have := h3.2.1; omega
  exact ⟨by rw [h2]; exact nI_rem1000 ky h1 _ h4, by omega⟩
theorem lt0_n1 : ((-1 : Int32) < 0) := by decide
theorem clamp_mm (v : Int32) : (if (if (9 : Int32) < v then 9 else v) < 0 then 0 else (if (9 : Int32) < v then 9 else v)) = clamp v 0 9 := by
  unfold clamp
  by_cases h : v < 0
  · have h9 : ¬ (9 : Int32) < v := fun z => absurd (Int32.lt_trans z h) (by decide)
    simp only [if_neg h9, if_pos h]
  · by_cases h9 : (9 : Int32) < v
    · simp only [if_pos h9, if_neg h]
      rfl
    · simp only [if_neg h9, if_neg h]
theorem lt_max (x y : Int32) : (if x < y then y else x) = (if y ≤ x then x else y) := by
  by_cases h : x < y
  · rw [if_pos h, if_neg (Int32.not_le.mpr h)]
  · rw [if_neg h, if_pos (Int32.not_lt.mp h)]
theorem countsF_s {f : FA} {ky : Int32} {n : Nat} : countsF f ky (n + 1) = if f (86 + 2 * n) / 1000 = ky then nI n else countsF f ky n := rfl
section W4
variable {d l b p : Nat} {M : Mem} {Q : PQ} {f : FA}
theorem sp_counting {ky : Int32} (hd : 1 ≤ d) (hT : TX M f) (hQ : Q (some (.inl (countsF f ky (cT f)))) M) : Td PR d 27 [.inr (6, 0, 0), .inl ky, .inl (nI (cT f))] M Q := by
  obtain ⟨e, rfl⟩ : ∃ e, d = e + 1 := ⟨d - 1, by omega⟩
  refine td_X2_counting ?_
  intro S hS
  have h14 := hT.1
  have lp : ∀ n, n ≤ cT f → countsF f ky n = countsF f ky (cT f) → S 4 [some (.inr (6, 0, 0)), some (.inl ky), some (.inl (nI (cT f))), some (.inl (nI n - 1))] [] M := by
    intro n
    induction n with
    | zero =>
      intro _ he
      iterate 2 refine hS _ _ _ _ ?_
      refine And.intro (fun h5 => ?_) (fun h5 => ?_)
      · iterate 2 refine hS _ _ _ _ ?_
        exact qv hQ he.symm
      · exact absurd h5 (by decide)
    | succ n ih =>
      intro hn he
      rw [nI_pred]
      have e0 := (hT.2.2.1 n (by omega)).1
      iterate 2 refine hS _ _ _ _ ?_
      refine And.intro (fun h5 => ?_) (fun h5 => ?_)
      · exact absurd h5 (nI_pos (by omega))
      · iterate 4 refine hS _ _ _ _ ?_
        refine ⟨(by first | assumption | exact vp_in_nI (by simp only [alen]; omega) (by decide)), ?_⟩
        try rw [nI_clamp (by omega)]
        iterate 3 refine hS _ _ _ _ ?_
        refine And.intro (fun h18 => ?_) (fun h18 => ?_)
        · have e9 : countsF f ky (n + 1) = countsF f ky n := by rw [countsF_s]; exact if_neg (e0 ▸ h18)
          iterate 2 refine hS _ _ _ _ ?_
          have ih2 := ih (by omega) (e9.symm.trans he)
          rw [Int32.sub_eq_add_neg] at ih2
          exact ih2
        · iterate 2 refine hS _ _ _ _ ?_
          refine qv hQ ?_
          rw [← he, countsF_s]
          exact (if_pos (e0 ▸ h18))
  iterate 4 refine hS _ _ _ _ ?_
  exact lp _ (Nat.le_refl _) rfl
theorem sp_lawOf {ky : Int32} (hd : 2 ≤ d) (hL : LL M l f) (hT : TX M f) (hQ : Q (some (.inl (countsF f ky (cT f)))) M) : Td PR d 11 [.inr (1, l, 0), .inl ky] M Q := by
  obtain ⟨e, rfl⟩ : ∃ e, d = e + 1 := ⟨d - 1, by omega⟩
  refine td_X1_lawOf ?_
  intro S hS
  have e := hL.tc
  iterate 6 refine hS _ _ _ _ ?_
  show Td PR _ 27 [.inr (6, 0, 0), .inl ky, .inl (M 1 l 0 12)] M _
  rw [e]
  refine sp_counting (by omega) hT ?_
  refine hS _ _ _ _ ?_
  exact hQ
theorem sp_joined_1 {x y : Int32} (hd : 1 ≤ d) (hQ : Q (some (.inl (twoF (-1) x y))) M) : Td PR d 29 [.inl 124, .inl x, .inl y] M Q := by
  obtain ⟨e, rfl⟩ : ∃ e, d = e + 1 := ⟨d - 1, by omega⟩
  refine td_X2_joined ?_
  intro S hS
  iterate 2 refine hS _ _ _ _ ?_
  refine And.intro (fun h => absurd h (by decide)) (fun _ => ?_)
  refine And.intro (fun h => absurd h (by decide)) (fun _ => ?_)
  refine And.intro (fun h => absurd h (by decide)) (fun _ => ?_)
  refine And.intro (fun h => absurd h (by decide)) (fun _ => ?_)
  refine And.intro (fun h => absurd h (by decide)) (fun _ => ?_)
  refine And.intro (fun h => absurd h (by decide)) (fun _ => ?_)
  refine And.intro (fun h => absurd h (by decide)) (fun _ => ?_)
  refine And.intro (fun h => absurd h (by decide)) (fun _ => ?_)
  refine And.intro (fun h => absurd h (by decide)) (fun _ => ?_)
  refine And.intro (fun h => absurd h (by decide)) (fun _ => ?_)
  refine And.intro (fun h => absurd h (by decide)) (fun _ => ?_)
  refine And.intro (fun h => absurd h (by decide)) (fun _ => ?_)
  refine And.intro (fun h => absurd h (by decide)) (fun _ => ?_)
  refine And.intro (fun h => absurd h (by decide)) (fun _ => ?_)
  refine And.intro (fun h => absurd h (by decide)) (fun _ => ?_)
  refine And.intro (fun h => absurd h (by decide)) (fun _ => ?_)
  refine And.intro (fun h => absurd h (by decide)) (fun _ => ?_)
  refine And.intro (fun h => absurd h (by decide)) (fun _ => ?_)
  refine And.intro (fun h => absurd h (by decide)) (fun _ => ?_)
  refine And.intro (fun h => absurd h (by decide)) (fun _ => ?_)
  refine And.intro (fun h => absurd h (by decide)) (fun _ => ?_)
  refine And.intro (fun h => absurd h (by decide)) (fun _ => ?_)
  refine And.intro (fun h => absurd h (by decide)) (fun _ => ?_)
  refine And.intro (fun h => absurd h (by decide)) (fun _ => ?_)
  refine And.intro (fun h => absurd h (by decide)) (fun _ => ?_)
  iterate 2 refine hS _ _ _ _ ?_
  refine And.intro (fun h188 => ?_) (fun h188 => ?_)
  · iterate 3 refine hS _ _ _ _ ?_
    refine qv hQ ?_
    simp_all [twoF]
  · iterate 2 refine hS _ _ _ _ ?_
    refine And.intro (fun h192 => ?_) (fun h192 => ?_)
    · iterate 2 refine hS _ _ _ _ ?_
      refine qv hQ ?_
      simp_all [twoF]
    · iterate 3 refine hS _ _ _ _ ?_
      refine qv hQ ?_
      simp_all [twoF]
theorem sp_joined_2 {x y : Int32} (hd : 1 ≤ d) (hQ : Q (some (.inl (twoF (-2) x y))) M) : Td PR d 29 [.inl 38, .inl x, .inl y] M Q := by
  obtain ⟨e, rfl⟩ : ∃ e, d = e + 1 := ⟨d - 1, by omega⟩
  refine td_X2_joined ?_
  intro S hS
  iterate 2 refine hS _ _ _ _ ?_
  refine And.intro (fun _ => ?_) (fun h => absurd rfl h)
  iterate 2 refine hS _ _ _ _ ?_
  refine And.intro (fun h174 => ?_) (fun h174 => ?_)
  · iterate 2 refine hS _ _ _ _ ?_
    refine qv hQ ?_
    simp_all [twoF]
  · iterate 2 refine hS _ _ _ _ ?_
    refine And.intro (fun h178 => ?_) (fun h178 => ?_)
    · iterate 2 refine hS _ _ _ _ ?_
      refine qv hQ ?_
      simp_all [twoF]
    · iterate 3 refine hS _ _ _ _ ?_
      refine qv hQ ?_
      simp_all [twoF]
theorem sp_joined_3 {x y : Int32} (hd : 1 ≤ d) (hQ : Q (some (.inl (twoF (-3) x y))) M) : Td PR d 29 [.inl 60, .inl x, .inl y] M Q := by
  obtain ⟨e, rfl⟩ : ∃ e, d = e + 1 := ⟨d - 1, by omega⟩
  refine td_X2_joined ?_
  intro S hS
  iterate 2 refine hS _ _ _ _ ?_
  refine And.intro (fun h => absurd h (by decide)) (fun _ => ?_)
  refine And.intro (fun h => absurd h (by decide)) (fun _ => ?_)
  refine And.intro (fun h => absurd h (by decide)) (fun _ => ?_)
  refine And.intro (fun h => absurd h (by decide)) (fun _ => ?_)
  refine And.intro (fun h => absurd h (by decide)) (fun _ => ?_)
  refine And.intro (fun h => absurd h (by decide)) (fun _ => ?_)
  refine And.intro (fun h => absurd h (by decide)) (fun _ => ?_)
  refine And.intro (fun h => absurd h (by decide)) (fun _ => ?_)
  refine And.intro (fun h => absurd h (by decide)) (fun _ => ?_)
  refine And.intro (fun h => absurd h (by decide)) (fun _ => ?_)
  refine And.intro (fun h => absurd h (by decide)) (fun _ => ?_)
  refine And.intro (fun h => absurd h (by decide)) (fun _ => ?_)
  refine And.intro (fun h => absurd h (by decide)) (fun _ => ?_)
  refine And.intro (fun h => absurd h (by decide)) (fun _ => ?_)
  refine And.intro (fun h => absurd h (by decide)) (fun _ => ?_)
  refine And.intro (fun h => absurd h (by decide)) (fun _ => ?_)
  refine And.intro (fun h => absurd h (by decide)) (fun _ => ?_)
  refine And.intro (fun h => absurd h (by decide)) (fun _ => ?_)
  refine And.intro (fun h => absurd h (by decide)) (fun _ => ?_)
  refine And.intro (fun h => absurd h (by decide)) (fun _ => ?_)
  refine And.intro (fun h => absurd h (by decide)) (fun _ => ?_)
  refine And.intro (fun h => absurd h (by decide)) (fun _ => ?_)
  refine And.intro (fun _ => ?_) (fun h => absurd rfl h)
  iterate 3 refine hS _ _ _ _ ?_
  refine And.intro (fun h142 => ?_) (fun h142 => ?_)
  · iterate 2 refine hS _ _ _ _ ?_
    refine qv hQ ?_
    simp_all [twoF]
  · iterate 3 refine hS _ _ _ _ ?_
    refine qv hQ ?_
    simp_all [twoF]
theorem sp_joined_4 {x y : Int32} (hd : 1 ≤ d) (hQ : Q (some (.inl (twoF (-4) x y))) M) : Td PR d 29 [.inl 61, .inl x, .inl y] M Q := by
  obtain ⟨e, rfl⟩ : ∃ e, d = e + 1 := ⟨d - 1, by omega⟩
  refine td_X2_joined ?_
  intro S hS
  iterate 2 refine hS _ _ _ _ ?_
  refine And.intro (fun h => absurd h (by decide)) (fun _ => ?_)
  refine And.intro (fun h => absurd h (by decide)) (fun _ => ?_)
  refine And.intro (fun h => absurd h (by decide)) (fun _ => ?_)
  refine And.intro (fun h => absurd h (by decide)) (fun _ => ?_)
  refine And.intro (fun h => absurd h (by decide)) (fun _ => ?_)
  refine And.intro (fun h => absurd h (by decide)) (fun _ => ?_)
  refine And.intro (fun h => absurd h (by decide)) (fun _ => ?_)
  refine And.intro (fun h => absurd h (by decide)) (fun _ => ?_)
  refine And.intro (fun h => absurd h (by decide)) (fun _ => ?_)
  refine And.intro (fun h => absurd h (by decide)) (fun _ => ?_)
  refine And.intro (fun h => absurd h (by decide)) (fun _ => ?_)
  refine And.intro (fun h => absurd h (by decide)) (fun _ => ?_)
  refine And.intro (fun h => absurd h (by decide)) (fun _ => ?_)
  refine And.intro (fun h => absurd h (by decide)) (fun _ => ?_)
  refine And.intro (fun h => absurd h (by decide)) (fun _ => ?_)
  refine And.intro (fun h => absurd h (by decide)) (fun _ => ?_)
  refine And.intro (fun h => absurd h (by decide)) (fun _ => ?_)
  refine And.intro (fun h => absurd h (by decide)) (fun _ => ?_)
  refine And.intro (fun h => absurd h (by decide)) (fun _ => ?_)
  refine And.intro (fun h => absurd h (by decide)) (fun _ => ?_)
  refine And.intro (fun h => absurd h (by decide)) (fun _ => ?_)
  refine And.intro (fun h => absurd h (by decide)) (fun _ => ?_)
  refine And.intro (fun h => absurd h (by decide)) (fun _ => ?_)
  refine And.intro (fun _ => ?_) (fun h => absurd rfl h)
  iterate 3 refine hS _ _ _ _ ?_
  refine And.intro (fun h153 => ?_) (fun h153 => ?_)
  · iterate 2 refine hS _ _ _ _ ?_
    refine qv hQ ?_
    simp_all [twoF]
  · iterate 3 refine hS _ _ _ _ ?_
    refine qv hQ ?_
    simp_all [twoF]
theorem sp_joined_5 {x y : Int32} (hd : 1 ≤ d) (hQ : Q (some (.inl (twoF (-5) x y))) M) : Td PR d 29 [.inl 62, .inl x, .inl y] M Q := by
  obtain ⟨e, rfl⟩ : ∃ e, d = e + 1 := ⟨d - 1, by omega⟩
  refine td_X2_joined ?_
  intro S hS
  iterate 2 refine hS _ _ _ _ ?_
  refine And.intro (fun h => absurd h (by decide)) (fun _ => ?_)
  refine And.intro (fun h => absurd h (by decide)) (fun _ => ?_)
  refine And.intro (fun h => absurd h (by decide)) (fun _ => ?_)
  refine And.intro (fun h => absurd h (by decide)) (fun _ => ?_)
  refine And.intro (fun h => absurd h (by decide)) (fun _ => ?_)
  refine And.intro (fun h => absurd h (by decide)) (fun _ => ?_)
  refine And.intro (fun h => absurd h (by decide)) (fun _ => ?_)
  refine And.intro (fun h => absurd h (by decide)) (fun _ => ?_)
  refine And.intro (fun h => absurd h (by decide)) (fun _ => ?_)
  refine And.intro (fun h => absurd h (by decide)) (fun _ => ?_)
  refine And.intro (fun h => absurd h (by decide)) (fun _ => ?_)
  refine And.intro (fun h => absurd h (by decide)) (fun _ => ?_)
  refine And.intro (fun h => absurd h (by decide)) (fun _ => ?_)
  refine And.intro (fun h => absurd h (by decide)) (fun _ => ?_)
  refine And.intro (fun h => absurd h (by decide)) (fun _ => ?_)
  refine And.intro (fun h => absurd h (by decide)) (fun _ => ?_)
  refine And.intro (fun h => absurd h (by decide)) (fun _ => ?_)
  refine And.intro (fun h => absurd h (by decide)) (fun _ => ?_)
  refine And.intro (fun h => absurd h (by decide)) (fun _ => ?_)
  refine And.intro (fun h => absurd h (by decide)) (fun _ => ?_)
  refine And.intro (fun h => absurd h (by decide)) (fun _ => ?_)
  refine And.intro (fun h => absurd h (by decide)) (fun _ => ?_)
  refine And.intro (fun h => absurd h (by decide)) (fun _ => ?_)
  refine And.intro (fun h => absurd h (by decide)) (fun _ => ?_)
  refine And.intro (fun _ => ?_) (fun h => absurd rfl h)
  iterate 3 refine hS _ _ _ _ ?_
  refine And.intro (fun h164 => ?_) (fun h164 => ?_)
  · iterate 2 refine hS _ _ _ _ ?_
    refine qv hQ ?_
    simp_all [twoF]
  · iterate 3 refine hS _ _ _ _ ?_
    refine qv hQ ?_
    simp_all [twoF]
theorem sp_joined_6 {x y : Int32} (hd : 1 ≤ d) (hQ : Q (some (.inl (twoF (-6) x y))) M) : Td PR d 29 [.inl 43, .inl x, .inl y] M Q := by
  obtain ⟨e, rfl⟩ : ∃ e, d = e + 1 := ⟨d - 1, by omega⟩
  refine td_X2_joined ?_
  intro S hS
  iterate 2 refine hS _ _ _ _ ?_
  refine And.intro (fun h => absurd h (by decide)) (fun _ => ?_)
  refine And.intro (fun h => absurd h (by decide)) (fun _ => ?_)
  refine And.intro (fun h => absurd h (by decide)) (fun _ => ?_)
  refine And.intro (fun h => absurd h (by decide)) (fun _ => ?_)
  refine And.intro (fun h => absurd h (by decide)) (fun _ => ?_)
  refine And.intro (fun _ => ?_) (fun h => absurd rfl h)
  iterate 4 refine hS _ _ _ _ ?_
  refine qv hQ ?_
  simp_all [twoF]
theorem sp_joined_7 {x y : Int32} (hd : 1 ≤ d) (hQ : Q (some (.inl (twoF (-7) x y))) M) : Td PR d 29 [.inl 45, .inl x, .inl y] M Q := by
  obtain ⟨e, rfl⟩ : ∃ e, d = e + 1 := ⟨d - 1, by omega⟩
  refine td_X2_joined ?_
  intro S hS
  iterate 2 refine hS _ _ _ _ ?_
  refine And.intro (fun h => absurd h (by decide)) (fun _ => ?_)
  refine And.intro (fun h => absurd h (by decide)) (fun _ => ?_)
  refine And.intro (fun h => absurd h (by decide)) (fun _ => ?_)
  refine And.intro (fun h => absurd h (by decide)) (fun _ => ?_)
  refine And.intro (fun h => absurd h (by decide)) (fun _ => ?_)
  refine And.intro (fun h => absurd h (by decide)) (fun _ => ?_)
  refine And.intro (fun h => absurd h (by decide)) (fun _ => ?_)
  refine And.intro (fun _ => ?_) (fun h => absurd rfl h)
  iterate 4 refine hS _ _ _ _ ?_
  refine qv hQ ?_
  simp_all [twoF]
theorem sp_joined_8 {x y : Int32} (hd : 1 ≤ d) (hQ : Q (some (.inl (twoF (-8) x y))) M) : Td PR d 29 [.inl 42, .inl x, .inl y] M Q := by
  obtain ⟨e, rfl⟩ : ∃ e, d = e + 1 := ⟨d - 1, by omega⟩
  refine td_X2_joined ?_
  intro S hS
  iterate 2 refine hS _ _ _ _ ?_
  refine And.intro (fun h => absurd h (by decide)) (fun _ => ?_)
  refine And.intro (fun h => absurd h (by decide)) (fun _ => ?_)
  refine And.intro (fun h => absurd h (by decide)) (fun _ => ?_)
  refine And.intro (fun h => absurd h (by decide)) (fun _ => ?_)
  refine And.intro (fun _ => ?_) (fun h => absurd rfl h)
  iterate 4 refine hS _ _ _ _ ?_
  refine qv hQ ?_
  simp_all [twoF]
theorem sp_joined_9 {x y : Int32} (hd : 1 ≤ d) (hQ : Q (some (.inl (twoF (-9) x y))) M) : Td PR d 29 [.inl 47, .inl x, .inl y] M Q := by
  obtain ⟨e, rfl⟩ : ∃ e, d = e + 1 := ⟨d - 1, by omega⟩
  refine td_X2_joined ?_
  intro S hS
  iterate 2 refine hS _ _ _ _ ?_
  refine And.intro (fun h => absurd h (by decide)) (fun _ => ?_)
  refine And.intro (fun h => absurd h (by decide)) (fun _ => ?_)
  refine And.intro (fun h => absurd h (by decide)) (fun _ => ?_)
  refine And.intro (fun h => absurd h (by decide)) (fun _ => ?_)
  refine And.intro (fun h => absurd h (by decide)) (fun _ => ?_)
  refine And.intro (fun h => absurd h (by decide)) (fun _ => ?_)
  refine And.intro (fun h => absurd h (by decide)) (fun _ => ?_)
  refine And.intro (fun h => absurd h (by decide)) (fun _ => ?_)
  refine And.intro (fun h => absurd h (by decide)) (fun _ => ?_)
  refine And.intro (fun _ => ?_) (fun h => absurd rfl h)
  iterate 2 refine hS _ _ _ _ ?_
  refine And.intro (fun h129 => ?_) (fun h129 => ?_)
  · iterate 3 refine hS _ _ _ _ ?_
    refine ⟨h129, ?_⟩
    refine hS _ _ _ _ ?_
    refine qv hQ ?_
    simp_all [twoF]
  · iterate 3 refine hS _ _ _ _ ?_
    refine qv hQ ?_
    simp_all [twoF]
theorem sp_joined {x y : Int32} {j : Nat} (hd : 1 ≤ d) (h1 : 1 ≤ j) (h2 : j < 10) (hQ : Q (some (.inl (twoF (- nI j) x y))) M) : Td PR d 29 [.inl (- phi (- nI j)), .inl x, .inl y] M Q := by
  obtain rfl | rfl | rfl | rfl | rfl | rfl | rfl | rfl | rfl : j = 1 ∨ j = 2 ∨ j = 3 ∨ j = 4 ∨ j = 5 ∨ j = 6 ∨ j = 7 ∨ j = 8 ∨ j = 9 := by omega
  · have e : - phi (- nI 1) = 124 := by decide
    rw [e]
    exact sp_joined_1 hd hQ
  · have e : - phi (- nI 2) = 38 := by decide
    rw [e]
    exact sp_joined_2 hd hQ
  · have e : - phi (- nI 3) = 60 := by decide
    rw [e]
    exact sp_joined_3 hd hQ
  · have e : - phi (- nI 4) = 61 := by decide
    rw [e]
    exact sp_joined_4 hd hQ
  · have e : - phi (- nI 5) = 62 := by decide
    rw [e]
    exact sp_joined_5 hd hQ
  · have e : - phi (- nI 6) = 43 := by decide
    rw [e]
    exact sp_joined_6 hd hQ
  · have e : - phi (- nI 7) = 45 := by decide
    rw [e]
    exact sp_joined_7 hd hQ
  · have e : - phi (- nI 8) = 42 := by decide
    rw [e]
    exact sp_joined_8 hd hQ
  · have e : - phi (- nI 9) = 47 := by decide
    rw [e]
    exact sp_joined_9 hd hQ
theorem depS_le {c : FA} : ∀ n, depS c n ≤ n := by
  intro n
  induction n with
  | zero => exact Nat.le_refl _
  | succ n ih =>
    unfold depS
    by_cases h : 0 ≤ c n
    · rw [if_pos h]; omega
    · rw [if_neg h]
      by_cases h2 : c n = -10
      · rw [if_pos h2]; omega
      · rw [if_neg h2]; omega
theorem phi_lo {j : Nat} (h : j < 10000) : phi (nI j) = nI j := by
  unfold phi
  have h' : nI j < 10000 := nI_lt (b := 10000) h (by decide)
  rw [if_pos (nI_pos' (by omega)), if_pos h']
theorem nlt_m3 {j : Nat} (h : j < 2 ^ 31) : ¬ nI j < -3 := fun z => nI_pos h (Int32.lt_trans z (by decide))
theorem sgS_lo {x y z : Int32} {j : Nat} {q : Nat × FA} (h : j < 10003) : sgS x y z (nI j) q = (q.1 + 1, upd q.2 q.1 (if nI j < 10000 then nI j else if nI j = 10000 then x else if nI j = 10001 then y else z)) := by
  unfold sgS
  rw [if_pos (nI_pos' (by omega))]
theorem depS_s {c : FA} {n : Nat} {x y z : Int32} : depS c (n + 1) = (sgS x y z (c n) (runS x y z c n)).1 := runS_1.symm
theorem sgS_n10 {x y z : Int32} {q : Nat × FA} : sgS x y z (-10) q = (q.1, upd q.2 (q.1 - 1) (if q.2 (q.1 - 1) = 0 then 1 else 0)) := rfl
theorem neg_nI : ∀ j, j < 10 → 1 ≤ j → ¬ (0 : Int32) ≤ - nI j ∧ ¬ - nI j = -10 ∧ phi (- nI j) < -3 ∧ ¬ phi (- nI j) = -33 := by decide +kernel
theorem sgS_op {x y z : Int32} {j : Nat} {q : Nat × FA} (h1 : 1 ≤ j) (h2 : j < 10) : sgS x y z (- nI j) q = (q.1 - 1, upd q.2 (q.1 - 2) (twoF (- nI j) (q.2 (q.1 - 2)) (q.2 (q.1 - 1)))) := by
  unfold sgS
  rw [if_neg (neg_nI j h2 h1).1, if_neg (neg_nI j h2 h1).2.1]
theorem nI_m1 (m : Nat) : nI (m + 1) + -1 = nI m := by rw [← nI_pred m, Int32.sub_eq_add_neg]
theorem nI_lt1 {m : Nat} (h : m + 1 < 2 ^ 31) : ¬ nI (m + 1) < 1 := nI_nlt (a := m + 1) (b := 1) (by omega) h
theorem nI_lt2 {m : Nat} (h : m + 2 < 2 ^ 31) : ¬ nI (m + 2) < 2 := nI_nlt (a := m + 2) (b := 2) (by omega) h
theorem sp_value {t : Nat} {x y z : Int32} (hd : 2 ≤ d) (hT : TX M f) (ht : t < cT f) (hQ : ∀ M', (∀ k, k ≠ 8 → M' k = M k) → Q (some (.inl (worthT f t x y z))) M') : Td PR d 28 [.inr (6, 0, 0), .inl (nI t), .inl x, .inl y, .inl z] M Q := by
  obtain ⟨e, rfl⟩ : ∃ e, d = e + 1 := ⟨d - 1, by omega⟩
  refine td_X2_value ?_
  intro S hS
  have h14 := hT.1
  obtain ⟨ky, k1, k2, k3⟩ := hT.2.2.2 t ht
  obtain ⟨o1, o2, o3, o4⟩ := k3
  have el : M 9 t 0 2 = nI (lenF f t) := (hT.2.2.1 t ht).2.1.trans (txOk.len (hT.2.2.2 t ht)).1
  have ep := (hT.2.2.1 t ht).2.2.2
  iterate 4 refine hS _ _ _ _ ?_
  refine ⟨(by first | assumption | exact vp_in_nI (by simp only [alen]; omega) (by decide)), ?_⟩
  try rw [nI_clamp (by omega)]
  iterate 5 refine hS _ _ _ _ ?_
  refine lp_up (T := fun i => ∀ (o : Option AV) (M' : Mem), (∀ k, k ≠ 8 → M' k = M k) → (∀ j, j < depS (ctx f t) i → M' 8 0 0 j = (runS x y z (ctx f t) i).2 j) → S 14 [some (.inr (6, 0, 0)), some (.inl (nI t)), some (.inl x), some (.inl y), some (.inl z), some (.inr (9, t, 0)), some (.inl (nI (depS (ctx f t) i))), some (.inl (nI i)), o] [] M') (N := lenF f t) ?_ ?_ 0 (Nat.zero_le _) none M (fun _ _ => rfl) (fun j h => absurd h (Nat.not_lt_zero _))
  · intro o M' hF hR
    have e9 : M' 9 t 0 2 = nI (lenF f t) := by rw [hF 9 (by decide)]; exact el
    iterate 4 refine hS _ _ _ _ ?_
    refine And.intro (fun h21 => ?_) (fun h21 => ?_)
    · iterate 4 refine hS _ _ _ _ ?_
      refine ⟨vp_l rfl, ?_⟩
      refine hS _ _ _ _ ?_
      refine qv (hQ M' hF) ?_
      exact (hR 0 (by omega)).symm
    · exact (lp_x e9 h21).elim
  · intro i hi ih o M' hF hR
    have e9 : M' 9 t 0 2 = nI (lenF f t) := by rw [hF 9 (by decide)]; exact el
    have e10 : M' 10 t 0 i = phi (ctx f t i) := by rw [hF 10 (by decide)]; exact ep i hi
    have hdl := @depS_le (ctx f t) i
    have hr1 : (runS x y z (ctx f t) i).1 = depS (ctx f t) i := runS_1
    have hds := @depS_s (ctx f t) i x y z
    have hrs : (runS x y z (ctx f t) (i + 1)) = sgS x y z (ctx f t i) (runS x y z (ctx f t) i) := rfl
    have fin : ∀ (o' : Option AV) (M2 : Mem) (D : Nat) (tv : Int32), tv = nI D → (∀ k, k ≠ 8 → M2 k = M' k) → D = (sgS x y z (ctx f t i) (runS x y z (ctx f t) i)).1 → (∀ j, j < D → M2 8 0 0 j = (sgS x y z (ctx f t i) (runS x y z (ctx f t) i)).2 j) → S 14 [some (.inr (6, 0, 0)), some (.inl (nI t)), some (.inl x), some (.inl y), some (.inl z), some (.inr (9, t, 0)), some (.inl tv), some (.inl (nI i + 1)), o'] [] M2 := by
      intro o' M2 D tv a0 a1 a2 a3
      subst a0
      have := ih o' M2 (fun k hk => (a1 k hk).trans (hF k hk)) (fun j hj => by rw [hrs]; exact a3 j (by rw [a2, ← hds]; exact hj))
      rw [hds, ← a2, nI_succ] at this
      exact this
    clear ih hds hrs
    have hso := o4 i hi
    clear o4
    generalize ctx f t i = v at *
    generalize depS (ctx f t) i = D0 at *
    generalize runS x y z (ctx f t) i = q at *
    rcases hso with ⟨j, hj, rfl⟩ | ⟨rfl, h1⟩ | ⟨j, j1, j2, rfl, h2⟩
    · have hj3 : j < 10003 := by split at hj <;> omega
      rw [sgS_lo hj3, hr1] at fin
      by_cases hlo : j < 10000
      · rw [phi_lo hlo] at e10
        have hc : nI j < 10000 := nI_lt (b := 10000) hlo (by decide)
        simp only [if_pos hc] at fin
        iterate 4 refine hS _ _ _ _ ?_
        refine And.intro (fun h21 => ?_) (fun h21 => ?_)
        · exact (lp_s e9 hi (by omega) h21).elim
        · iterate 5 refine hS _ _ _ _ ?_
          refine And.intro (fun h31 => ?_) (fun h31 => ?_)
          · exact absurd h31 (nI_ge (b := 96) (by omega) (by decide))
          · iterate 4 refine hS _ _ _ _ ?_
            refine ⟨(by first | assumption | exact vp_in_nI (by simp only [alen]; omega) (by decide)), ?_⟩
            try rw [nI_clamp (by omega)]
            iterate 4 refine hS _ _ _ _ ?_
            refine And.intro (fun h48 => ?_) (fun h48 => ?_)
            · exact absurd (e10 ▸ h48) (nlt_m3 (by omega))
            · iterate 5 refine hS _ _ _ _ ?_
              refine And.intro (fun h59 => ?_) (fun h59 => ?_)
              · exact absurd (e10 ▸ h59) (nI_pos (by omega))
              · iterate 3 refine hS _ _ _ _ ?_
                refine ⟨(by first | assumption | exact vp_in_nI (by simp only [alen]; omega) (by decide)), ?_⟩
                try rw [nI_clamp (by omega)]
                iterate 4 refine hS _ _ _ _ ?_
                refine fin _ _ (D0 + 1) _ (nI_succ _).symm ?_ rfl ?_
                · intro k hk; exact mz_k hk
                · intro r hr; simp only [mu, mr, upd, if_pos, and_self]; by_cases z : r = D0
                  · rw [if_pos z, if_pos z]; exact e10
                  · rw [if_neg z, if_neg z]; exact hR r (by omega)
      · obtain rfl | rfl | rfl : j = 10000 ∨ j = 10001 ∨ j = 10002 := by omega
        · have e11 : M' 10 t 0 i = -1 := e10.trans (by decide)
          replace e10 := e11
          have hc : (if nI 10000 < 10000 then nI 10000 else if nI 10000 = 10000 then x else if nI 10000 = 10001 then y else z) = x := by rfl
          rw [hc] at fin
          iterate 4 refine hS _ _ _ _ ?_
          refine And.intro (fun h21 => ?_) (fun h21 => ?_)
          · exact (lp_s e9 hi (by omega) h21).elim
          · iterate 5 refine hS _ _ _ _ ?_
            refine And.intro (fun h31 => ?_) (fun h31 => ?_)
            · exact absurd h31 (nI_ge (b := 96) (by omega) (by decide))
            · iterate 4 refine hS _ _ _ _ ?_
              refine ⟨(by first | assumption | exact vp_in_nI (by simp only [alen]; omega) (by decide)), ?_⟩
              try rw [nI_clamp (by omega)]
              iterate 4 refine hS _ _ _ _ ?_
              refine And.intro (fun h48 => ?_) (fun h48 => ?_)
              · exact absurd (e10 ▸ h48) (by decide)
              · iterate 5 refine hS _ _ _ _ ?_
                refine And.intro (fun h59 => ?_) (fun h59 => ?_)
                · iterate 3 refine hS _ _ _ _ ?_
                  refine And.intro (fun h70 => ?_) (fun h70 => ?_)
                  · exact absurd e10 h70
                  · iterate 3 refine hS _ _ _ _ ?_
                    refine ⟨(by first | assumption | exact vp_in_nI (by simp only [alen]; omega) (by decide)), ?_⟩
                    try rw [nI_clamp (by omega)]
                    iterate 4 refine hS _ _ _ _ ?_
                    refine fin _ _ (D0 + 1) _ (nI_succ _).symm ?_ rfl ?_
                    · intro k hk; exact mz_k hk
                    · intro r hr; simp only [mu, mr, upd, if_pos, and_self]; by_cases z : r = D0
                      · rw [if_pos z, if_pos z]
                      · rw [if_neg z, if_neg z]; exact hR r (by omega)
                · exact absurd (e10 ▸ (by decide)) h59
        · have e11 : M' 10 t 0 i = -2 := e10.trans (by decide)
          replace e10 := e11
          have hc : (if nI 10001 < 10000 then nI 10001 else if nI 10001 = 10000 then x else if nI 10001 = 10001 then y else z) = y := by rfl
          rw [hc] at fin
          iterate 4 refine hS _ _ _ _ ?_
          refine And.intro (fun h21 => ?_) (fun h21 => ?_)
          · exact (lp_s e9 hi (by omega) h21).elim
          · iterate 5 refine hS _ _ _ _ ?_
            refine And.intro (fun h31 => ?_) (fun h31 => ?_)
            · exact absurd h31 (nI_ge (b := 96) (by omega) (by decide))
            · iterate 4 refine hS _ _ _ _ ?_
              refine ⟨(by first | assumption | exact vp_in_nI (by simp only [alen]; omega) (by decide)), ?_⟩
              try rw [nI_clamp (by omega)]
              iterate 4 refine hS _ _ _ _ ?_
              refine And.intro (fun h48 => ?_) (fun h48 => ?_)
              · exact absurd (e10 ▸ h48) (by decide)
              · iterate 5 refine hS _ _ _ _ ?_
                refine And.intro (fun h59 => ?_) (fun h59 => ?_)
                · iterate 3 refine hS _ _ _ _ ?_
                  refine And.intro (fun h70 => ?_) (fun h70 => ?_)
                  · iterate 3 refine hS _ _ _ _ ?_
                    refine And.intro (fun h81 => ?_) (fun h81 => ?_)
                    · exact absurd e10 h81
                    · iterate 3 refine hS _ _ _ _ ?_
                      refine ⟨(by first | assumption | exact vp_in_nI (by simp only [alen]; omega) (by decide)), ?_⟩
                      try rw [nI_clamp (by omega)]
                      iterate 4 refine hS _ _ _ _ ?_
                      refine fin _ _ (D0 + 1) _ (nI_succ _).symm ?_ rfl ?_
                      · intro k hk; exact mz_k hk
                      · intro r hr; simp only [mu, mr, upd, if_pos, and_self]; by_cases z : r = D0
                        · rw [if_pos z, if_pos z]
                        · rw [if_neg z, if_neg z]; exact hR r (by omega)
                  · exact absurd (e10.symm.trans h70) (by decide)
                · exact absurd (e10 ▸ (by decide)) h59
        · have e11 : M' 10 t 0 i = -3 := e10.trans (by decide)
          replace e10 := e11
          have hc : (if nI 10002 < 10000 then nI 10002 else if nI 10002 = 10000 then x else if nI 10002 = 10001 then y else z) = z := by rfl
          rw [hc] at fin
          iterate 4 refine hS _ _ _ _ ?_
          refine And.intro (fun h21 => ?_) (fun h21 => ?_)
          · exact (lp_s e9 hi (by omega) h21).elim
          · iterate 5 refine hS _ _ _ _ ?_
            refine And.intro (fun h31 => ?_) (fun h31 => ?_)
            · exact absurd h31 (nI_ge (b := 96) (by omega) (by decide))
            · iterate 4 refine hS _ _ _ _ ?_
              refine ⟨(by first | assumption | exact vp_in_nI (by simp only [alen]; omega) (by decide)), ?_⟩
              try rw [nI_clamp (by omega)]
              iterate 4 refine hS _ _ _ _ ?_
              refine And.intro (fun h48 => ?_) (fun h48 => ?_)
              · exact absurd (e10 ▸ h48) (by decide)
              · iterate 5 refine hS _ _ _ _ ?_
                refine And.intro (fun h59 => ?_) (fun h59 => ?_)
                · iterate 3 refine hS _ _ _ _ ?_
                  refine And.intro (fun h70 => ?_) (fun h70 => ?_)
                  · iterate 3 refine hS _ _ _ _ ?_
                    refine And.intro (fun h81 => ?_) (fun h81 => ?_)
                    · iterate 2 refine hS _ _ _ _ ?_
                      refine ⟨(by first | assumption | exact vp_in_nI (by simp only [alen]; omega) (by decide)), ?_⟩
                      try rw [nI_clamp (by omega)]
                      iterate 4 refine hS _ _ _ _ ?_
                      refine fin _ _ (D0 + 1) _ (nI_succ _).symm ?_ rfl ?_
                      · intro k hk; exact mz_k hk
                      · intro r hr; simp only [mu, mr, upd, if_pos, and_self]; by_cases z : r = D0
                        · rw [if_pos z, if_pos z]
                        · rw [if_neg z, if_neg z]; exact hR r (by omega)
                    · exact absurd (e10.symm.trans h81) (by decide)
                  · exact absurd (e10.symm.trans h70) (by decide)
                · exact absurd (e10 ▸ (by decide)) h59
    · have e11 : M' 10 t 0 i = -33 := e10.trans (by decide)
      obtain ⟨m, rfl⟩ : ∃ m, D0 = m + 1 := ⟨D0 - 1, by omega⟩
      rw [sgS_n10, hr1] at fin
      have hm := hR m (by omega)
      iterate 4 refine hS _ _ _ _ ?_
      refine And.intro (fun h21 => ?_) (fun h21 => ?_)
      · exact (lp_s e9 hi (by omega) h21).elim
      · iterate 5 refine hS _ _ _ _ ?_
        refine And.intro (fun h31 => ?_) (fun h31 => ?_)
        · exact absurd h31 (nI_ge (b := 96) (by omega) (by decide))
        · iterate 4 refine hS _ _ _ _ ?_
          refine ⟨(by first | assumption | exact vp_in_nI (by simp only [alen]; omega) (by decide)), ?_⟩
          try rw [nI_clamp (by omega)]
          iterate 4 refine hS _ _ _ _ ?_
          refine And.intro (fun h48 => ?_) (fun h48 => ?_)
          · iterate 3 refine hS _ _ _ _ ?_
            refine And.intro (fun h101 => ?_) (fun h101 => ?_)
            · exact absurd e11 h101
            · iterate 3 refine hS _ _ _ _ ?_
              refine And.intro (fun h107 => ?_) (fun h107 => ?_)
              · exact absurd h107 (nI_lt1 (by omega))
              · iterate 11 refine hS _ _ _ _ ?_
                rw [nI_pred]
                refine ⟨(by first | assumption | exact vp_in_nI (by simp only [alen]; omega) (by decide)), ?_⟩
                try rw [nI_clamp (by omega)]
                refine hS _ _ _ _ ?_
                refine And.intro (fun h127 => ?_) (fun h127 => ?_)
                · iterate 2 refine hS _ _ _ _ ?_
                  refine ⟨(by first | assumption | exact vp_in_nI (by simp only [alen]; omega) (by decide)), ?_⟩
                  try rw [nI_clamp (by omega)]
                  iterate 3 refine hS _ _ _ _ ?_
                  refine fin _ _ (m + 1) _ rfl ?_ rfl ?_
                  · intro k hk; exact mz_k hk
                  · intro r hr; simp only [mu, mr, upd, if_pos, and_self, Nat.add_sub_cancel]; by_cases z : r = m
                    · rw [if_pos z, if_pos z, ← hm]; simp_all
                    · rw [if_neg z, if_neg z]; exact hR r (by omega)
                · iterate 3 refine hS _ _ _ _ ?_
                  refine ⟨(by first | assumption | exact vp_in_nI (by simp only [alen]; omega) (by decide)), ?_⟩
                  try rw [nI_clamp (by omega)]
                  iterate 3 refine hS _ _ _ _ ?_
                  refine fin _ _ (m + 1) _ rfl ?_ rfl ?_
                  · intro k hk; exact mz_k hk
                  · intro r hr; simp only [mu, mr, upd, if_pos, and_self, Nat.add_sub_cancel]; by_cases z : r = m
                    · rw [if_pos z, if_pos z, ← hm]; simp_all
                    · rw [if_neg z, if_neg z]; exact hR r (by omega)
          · exact absurd (e11 ▸ (by decide)) h48
    · obtain ⟨m, rfl⟩ : ∃ m, D0 = m + 2 := ⟨D0 - 2, by omega⟩
      rw [sgS_op j1 j2, hr1] at fin
      have hm := hR m (by omega)
      have hm1 := hR (m + 1) (by omega)
      have hng := neg_nI j j2 j1
      iterate 4 refine hS _ _ _ _ ?_
      refine And.intro (fun h21 => ?_) (fun h21 => ?_)
      · exact (lp_s e9 hi (by omega) h21).elim
      · iterate 5 refine hS _ _ _ _ ?_
        refine And.intro (fun h31 => ?_) (fun h31 => ?_)
        · exact absurd h31 (nI_ge (b := 96) (by omega) (by decide))
        · iterate 4 refine hS _ _ _ _ ?_
          refine ⟨(by first | assumption | exact vp_in_nI (by simp only [alen]; omega) (by decide)), ?_⟩
          try rw [nI_clamp (by omega)]
          iterate 4 refine hS _ _ _ _ ?_
          refine And.intro (fun h48 => ?_) (fun h48 => ?_)
          · iterate 3 refine hS _ _ _ _ ?_
            refine And.intro (fun h101 => ?_) (fun h101 => ?_)
            · iterate 3 refine hS _ _ _ _ ?_
              refine And.intro (fun h142 => ?_) (fun h142 => ?_)
              · exact absurd h142 (nI_lt2 (by omega))
              · iterate 2 refine hS _ _ _ _ ?_
                rw [nI_m1]
                iterate 12 refine hS _ _ _ _ ?_
                rw [nI_pred]
                refine ⟨(by first | assumption | exact vp_in_nI (by simp only [alen]; omega) (by decide)), ?_⟩
                try rw [nI_clamp (by omega)]
                iterate 4 refine hS _ _ _ _ ?_
                refine ⟨(by first | assumption | exact vp_in_nI (by simp only [alen]; omega) (by decide)), ?_⟩
                try rw [nI_clamp (by omega)]
                refine hS _ _ _ _ ?_
                rw [hm, hm1, e10]
                refine sp_joined (by omega) j1 j2 ?_
                refine hS _ _ _ _ ?_
                refine ⟨(by first | assumption | exact vp_in_nI (by simp only [alen]; omega) (by decide)), ?_⟩
                try rw [nI_clamp (by omega)]
                iterate 2 refine hS _ _ _ _ ?_
                refine fin _ _ (m + 1) _ rfl ?_ rfl ?_
                · intro k hk; exact mz_k hk
                · intro r hr; simp only [mu, mr, upd, if_pos, and_self]; by_cases z : r = m
                  · rw [if_pos z, if_pos (by omega)]; rfl
                  · rw [if_neg z, if_neg (by omega)]; exact hR r (by omega)
            · exact absurd (e10.symm.trans h101) hng.2.2.2
          · exact absurd (e10 ▸ hng.2.2.1) h48
end W4
