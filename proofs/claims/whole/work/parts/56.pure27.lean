-- 56.pure27: sheets
abbrev RwT : Type := Nat → Int32 × Int32 × FA
def CRw (M : Mem) (R : RwT) : Prop := ∀ s, s < 4 → M 16 s 0 0 = (R s).1 ∧ M 16 s 0 1 = (R s).2.1 ∧ ∀ k, k < 24 → M 17 s 0 k = (R s).2.2 k
def MRw (M : Mem) (R : RwT) : Prop := ∀ s, s < 4 → M 58 0 0 s = (R s).1 ∧ M 59 0 0 s = (R s).2.1 ∧ ∀ k, k < 24 → M 60 0 0 (24 * s + k) = (R s).2.2 k
def RWf (R : RwT) : Prop := ∀ s, s < 4 → ((R s).1 = -1 ∨ (R s).1 = 0 ∨ (R s).1 = 1) ∧ isBd 25 (R s).2.1
def setR (R : RwT) (s : Nat) (v : Int32 × Int32 × FA) : RwT := fun t => if t = s then v else R t
theorem setR_wf {R : RwT} {s : Nat} {v : Int32 × Int32 × FA} (h : RWf R) (h1 : v.1 = -1 ∨ v.1 = 0 ∨ v.1 = 1) (h2 : isBd 25 v.2.1) : RWf (setR R s v) := by
  intro t ht
  unfold setR
  split
  · exact ⟨h1, h2⟩
  · exact h t ht
/-- the class's sheets alone are touched -/
def F16 (M M' : Mem) : Prop := ∀ k i, ¬ ((k = 16 ∨ k = 17) ∧ i < 4) → M' k i = M k i
def F58 (M M' : Mem) : Prop := ∀ k, k ≠ 58 → k ≠ 59 → k ≠ 60 → k ≠ 65 → M' k = M k
theorem F16.rf {M : Mem} : F16 M M := fun _ _ _ => rfl
theorem F58.rf {M : Mem} : F58 M M := fun _ _ _ _ _ => rfl
theorem INV.rows {M : Mem} (h : INV M) : ∃ R, CRw M R ∧ MRw M R ∧ RWf R := by
  refine ⟨fun s => (M 16 s 0 0, M 16 s 0 1, M 17 s 0), fun s hs => ⟨rfl, rfl, fun _ _ => rfl⟩, fun s hs => ?_, fun s hs => ?_⟩
  · obtain ⟨a, b, _, _, c⟩ := h.2.2.1 s hs
    exact ⟨a, b, c⟩
  · obtain ⟨_, _, c, d, _⟩ := h.2.2.1 s hs
    exact ⟨c, d⟩
theorem op_r {cm mm : Nat} {av : List AV} (P : RwT → Int32 × RwT)
    (hc : ∀ M R Q d, 500 ≤ d → CRw M R → RWf R → (∀ M1, F16 M M1 → CRw M1 (P R).2 → Q (some (.inl (P R).1)) M1) → Td PR d cm (.inr (0, 0, 0) :: av) M Q)
    (hm : ∀ M R Q d, 500 ≤ d → MRw M R → RWf R → (∀ M2, F58 M M2 → MRw M2 (P R).2 → Q (some (.inl (P R).1)) M2) → Td PR d mm (.inr (30, 0, 0) :: av) M Q)
    (hw : ∀ R, RWf R → RWf (P R).2) : OpOK cm mm av := by
  intro M hI d hd
  obtain ⟨R, c0, m0, w0⟩ := hI.rows
  have q1 : ∀ M1, F16 M M1 → ∀ k, k ≠ 16 → k ≠ 17 → M1 k = M k := fun M1 f1 k a b => funext fun i => f1 k i (by omega)
  refine hc M R _ d hd c0 w0 (fun M1 f1 c1 => ⟨_, rfl, ⟨q1 M1 f1 90 (by decide) (by decide), q1 M1 f1 91 (by decide) (by decide)⟩, ?_⟩)
  have m1 : MRw M1 R := fun s hs => by
    rw [q1 M1 f1 58 (by decide) (by decide), q1 M1 f1 59 (by decide) (by decide), q1 M1 f1 60 (by decide) (by decide)]
    exact m0 s hs
  refine hm M1 R _ d hd m1 w0 (fun M2 f2 m2 => ⟨rfl, ?_, ⟨f2 90 (by decide) (by decide) (by decide) (by decide), f2 91 (by decide) (by decide) (by decide) (by decide)⟩⟩)
  obtain ⟨a, b, c, d, e, g, k⟩ := hI
  have qq : ∀ k, k ≠ 16 → k ≠ 17 → k ≠ 58 → k ≠ 59 → k ≠ 60 → k ≠ 65 → M2 k = M k := fun k h1 h2 h3 h4 h5 h6 => (f2 k h3 h4 h5 h6).trans (q1 M1 f1 k h1 h2)
  have e1 : M2 1 = M 1 := qq 1 (by omega) (by omega) (by omega) (by omega) (by omega) (by omega)
  have e3 : M2 3 = M 3 := qq 3 (by omega) (by omega) (by omega) (by omega) (by omega) (by omega)
  have e5 : M2 5 = M 5 := qq 5 (by omega) (by omega) (by omega) (by omega) (by omega) (by omega)
  have e9 : M2 9 = M 9 := qq 9 (by omega) (by omega) (by omega) (by omega) (by omega) (by omega)
  have e10 : M2 10 = M 10 := qq 10 (by omega) (by omega) (by omega) (by omega) (by omega) (by omega)
  have e31 : M2 31 = M 31 := qq 31 (by omega) (by omega) (by omega) (by omega) (by omega) (by omega)
  have e32 : M2 32 = M 32 := qq 32 (by omega) (by omega) (by omega) (by omega) (by omega) (by omega)
  have e0 : M2 0 = M 0 := qq 0 (by omega) (by omega) (by omega) (by omega) (by omega) (by omega)
  have e30 : M2 30 = M 30 := qq 30 (by omega) (by omega) (by omega) (by omega) (by omega) (by omega)
  have e11 : M2 11 = M 11 := qq 11 (by omega) (by omega) (by omega) (by omega) (by omega) (by omega)
  have s16 : ∀ s, 4 ≤ s → M2 16 s = M 16 s := fun s hs => by rw [f2 16 (by omega) (by omega) (by omega) (by omega)]; exact f1 16 s (by omega)
  have s17 : ∀ s, 4 ≤ s → M2 17 s = M 17 s := fun s hs => by rw [f2 17 (by omega) (by omega) (by omega) (by omega)]; exact f1 17 s (by omega)
  refine ⟨a.cg (by rw [e1]) (by rw [e3]) (by rw [e5]) e9 e10 (by rw [e31]),
    b.cg (by rw [e0]) (by rw [e30]) (by rw [e1]) (by rw [e3]) (by rw [e5]) e9 e10 (by rw [e32]) (by rw [e31]), ?_,
    d.cg (qq 19 (by omega) (by omega) (by omega) (by omega) (by omega) (by omega)) (by rw [e3]) s16 s17 (qq 61 (by omega) (by omega) (by omega) (by omega) (by omega) (by omega)) (qq 62 (by omega) (by omega) (by omega) (by omega) (by omega) (by omega)) (qq 63 (by omega) (by omega) (by omega) (by omega) (by omega) (by omega)) (qq 64 (by omega) (by omega) (by omega) (by omega) (by omega) (by omega)),
    e.cg (by rw [e0]) (by rw [e30]) (qq 20 (by omega) (by omega) (by omega) (by omega) (by omega) (by omega)) (qq 66 (by omega) (by omega) (by omega) (by omega) (by omega) (by omega)),
    g.cg (by rw [e11]) (by rw [e30]) (qq 12 (by omega) (by omega) (by omega) (by omega) (by omega) (by omega)) (qq 40 (by omega) (by omega) (by omega) (by omega) (by omega) (by omega)),
    k.cg (qq 48 (by omega) (by omega) (by omega) (by omega) (by omega) (by omega)) (qq 49 (by omega) (by omega) (by omega) (by omega) (by omega) (by omega))⟩
  intro s hs
  obtain ⟨x1, x2, x3⟩ := c1 s hs
  obtain ⟨y1, y2, y3⟩ := m2 s hs
  obtain ⟨z1, z2⟩ := hw R w0 s hs
  have t16 : M2 16 = M1 16 := f2 16 (by omega) (by omega) (by omega) (by omega)
  have t17 : M2 17 = M1 17 := f2 17 (by omega) (by omega) (by omega) (by omega)
  rw [t16, t17, x1, x2, y1, y2]
  exact ⟨rfl, rfl, z1, z2, fun k hk => by rw [y3 k hk, x3 k hk]⟩
noncomputable def sheetP (R : RwT) (s o n : Int32) : Int32 × RwT := itP (isBd 4 s ∧ (¬ o < -1 ∧ ¬ 1 < o)) (if o = -1 then (0, setR R s.toNatClampNeg (-1, 0, fun _ => 0)) else if 24 < n then (-1000000001, R) else if n < 0 then (-1000000014, R) else (n, setR R s.toNatClampNeg (o, n, fun _ => 0))) (-1000000001, R)
theorem so_c {o : Int32} (h : ¬ o < -1 ∧ ¬ 1 < o) : o = -1 ∨ o = 0 ∨ o = 1 := by
  by_cases z : o < 0
  · left
    have h1 := h.1
    rw [Int32.lt_iff_toInt_lt] at h1 z
    rw [← Int32.toInt_inj]
    have e1 : (-1 : Int32).toInt = -1 := by decide
    have e0 : (0 : Int32).toInt = 0 := by decide
    rw [e1] at h1 ⊢
    rw [e0] at z
    omega
  · right
    obtain ⟨j, hj, e⟩ : isBd 2 o := (in_bd1 (n := 1) (by omega)).mp ⟨z, h.2⟩
    obtain rfl | rfl : j = 0 ∨ j = 1 := by omega
    · exact Or.inl e
    · exact Or.inr e
theorem sheetP_wf {R : RwT} {s o n : Int32} (h : RWf R) : RWf (sheetP R s o n).2 := by
  by_cases c : isBd 4 s ∧ (¬ o < -1 ∧ ¬ 1 < o)
  · rw [sheetP, itP_t c]
    split
    · exact setR_wf h (Or.inl rfl) ⟨0, by omega, rfl⟩
    · split
      · exact h
      · split
        · exact h
        · rename_i h1 h2 h3
          exact setR_wf h (so_c c.2) ((in_bd1 (n := 24) (by omega)).mp ⟨h3, h2⟩)
  · rw [sheetP, itP_f c]
    exact h
section W27
variable {d l b p K : Nat} {M : Mem} {Q : PQ} {R : RwT} {o n v : Int32}
theorem sp_clear {s : Nat} (hd : 1 ≤ d) (hQ : ∀ M1, (∀ k i, ¬ ((k = 16 ∨ k = 17) ∧ i = s) → M1 k i = M k i) → M1 16 s 0 0 = o → M1 16 s 0 1 = n → (∀ k, k < 24 → M1 17 s 0 k = 0) → Q none M1) : Td PR d 54 [.inr (16, s, 0), .inl o, .inl n] M Q := by
  obtain ⟨e, rfl⟩ : ∃ e, d = e + 1 := ⟨d - 1, by omega⟩
  refine td_X5_clear ?_
  intro S hS
  iterate 8 refine hS _ _ _ _ ?_
  refine lp_up (T := fun i => ∀ M1, (∀ k i, ¬ ((k = 16 ∨ k = 17) ∧ i = s) → M1 k i = M k i) → M1 16 s 0 0 = o → M1 16 s 0 1 = n → (∀ k, k < i → M1 17 s 0 k = 0) → S 12 [some (.inr (16, s, 0)), some (.inl o), some (.inl n), some (.inl (nI i))] [] M1) (N := 24) ?_ ?_ 0 (Nat.zero_le _) _ (fun k i h => ?_) ?_ ?_ (fun k h => absurd h (Nat.not_lt_zero _))
  · intro M1 a1 a2 a3 a4
    iterate 3 refine hS _ _ _ _ ?_
    refine And.intro (fun h15 => ?_) (fun h15 => ?_)
    · refine hS _ _ _ _ ?_
      exact hQ M1 a1 a2 a3 a4
    · exact (lp_x (n := 24) rfl h15).elim
  · intro i hi ih M1 a1 a2 a3 a4
    rw [nI_succ i] at ih
    iterate 3 refine hS _ _ _ _ ?_
    refine And.intro (fun h15 => ?_) (fun h15 => ?_)
    · exact (lp_s (n := 24) rfl hi (by omega) h15).elim
    · iterate 5 refine hS _ _ _ _ ?_
      refine ⟨(by first | assumption | exact vp_in_nI (by simp only [alen]; omega) (by decide)), ?_⟩
      try rw [nI_clamp (by omega)]
      iterate 2 refine hS _ _ _ _ ?_
      refine ih (mu M1 17 s 0 i 0) (fun k i' h => ?_) a2 a3 (fun k hk => ?_)
      · rw [mu, mr_out (fun z => h ⟨Or.inr z.1, z.2⟩)]; exact a1 k i' h
      · by_cases z : k = i
        · subst z; rw [mz_at]
        · rw [upd_mu, upd_ne z]; exact a4 k (by omega)
  · rw [mu, mr_out (fun z => h ⟨Or.inl z.1, z.2⟩), mu, mr_out (fun z => h ⟨Or.inl z.1, z.2⟩)]
  · rw [mz_sl (by decide), mz_at]
  · rw [mz_at]
theorem crw_set {M1 : Mem} {s : Nat} {v : Int32 × Int32 × FA} (hC : CRw M R) (f : ∀ k i, ¬ ((k = 16 ∨ k = 17) ∧ i = s) → M1 k i = M k i) (h0 : M1 16 s 0 0 = v.1) (h1 : M1 16 s 0 1 = v.2.1) (h2 : ∀ k, k < 24 → M1 17 s 0 k = v.2.2 k) : CRw M1 (setR R s v) := by
  intro t ht
  unfold setR
  by_cases z : t = s
  · subst z
    rw [if_pos rfl]
    exact ⟨h0, h1, h2⟩
  · rw [if_neg z, f 16 t (fun y => z y.2), f 17 t (fun y => z y.2)]
    exact hC t ht
theorem f16_set {M1 : Mem} {s : Nat} (hs : s < 4) (f : ∀ k i, ¬ ((k = 16 ∨ k = 17) ∧ i = s) → M1 k i = M k i) : F16 M M1 := fun k i h => f k i (fun z => h ⟨z.1, by rw [z.2]; exact hs⟩)
theorem c_sheet {s : Int32} (hd : 500 ≤ d) (hC : CRw M R) (hW : RWf R) (hQ : ∀ M1, F16 M M1 → CRw M1 (sheetP R s o n).2 → Q (some (.inl (sheetP R s o n).1)) M1) : Td PR d 97 [.inr (0, 0, 0), .inl s, .inl o, .inl n] M Q := by
  generalize hV : sheetP R s o n = W at hQ
  obtain ⟨e, rfl⟩ : ∃ e, d = e + 1 := ⟨d - 1, by omega⟩
  refine td_X9_sheet ?_
  intro S hS
  iterate 2 refine hS _ _ _ _ ?_
  refine sp_isSheet (by omega) ?_
  refine hS _ _ _ _ ?_
  refine And.intro (fun h4 => ?_) (fun h4 => ?_)
  · replace h4 := bI_f h4
    iterate 2 refine hS _ _ _ _ ?_
    rw [sheetP, itP_f (fun z => h4 z.1)] at hV
    subst hV
    exact hQ _ F16.rf hC
  · replace h4 := bI_t h4
    iterate 3 refine hS _ _ _ _ ?_
    refine And.intro (fun h9 => ?_) (fun h9 => ?_)
    · iterate 2 refine hS _ _ _ _ ?_
      rw [sheetP, itP_f (fun z => z.2.1 h9)] at hV
      subst hV
      exact hQ _ F16.rf hC
    · iterate 3 refine hS _ _ _ _ ?_
      refine And.intro (fun h14 => ?_) (fun h14 => ?_)
      · rw [sheetP, itP_t ⟨h4, h9, Int32.not_lt.mpr h14⟩] at hV
        obtain ⟨j, hj, rfl⟩ := h4
        rw [nI_clamp (by omega)] at hV
        iterate 3 refine hS _ _ _ _ ?_
        refine And.intro (fun h22 => ?_) (fun h22 => ?_)
        · rw [if_neg h22] at hV
          iterate 3 refine hS _ _ _ _ ?_
          refine And.intro (fun h41 => ?_) (fun h41 => ?_)
          · rw [if_neg (Int32.not_lt.mpr h41)] at hV
            iterate 2 refine hS _ _ _ _ ?_
            refine And.intro (fun h48 => ?_) (fun h48 => ?_)
            · rw [if_neg (Int32.not_lt.mpr h48)] at hV
              subst hV
              iterate 4 refine hS _ _ _ _ ?_
              refine ⟨(by first | assumption | exact vp_in_nI (by simp only [alen]; omega) (by decide)), ?_⟩
              try rw [nI_clamp (by omega)]
              iterate 3 refine hS _ _ _ _ ?_
              refine sp_clear (by omega) (fun M1 f1 a1 a2 a3 => ?_)
              iterate 2 refine hS _ _ _ _ ?_
              exact hQ M1 (f16_set hj f1) (crw_set hC f1 a1 a2 a3)
            · rw [if_pos (nle_lt h48)] at hV
              subst hV
              iterate 2 refine hS _ _ _ _ ?_
              exact hQ _ F16.rf hC
          · rw [if_pos (nle_lt h41)] at hV
            subst hV
            iterate 2 refine hS _ _ _ _ ?_
            exact hQ _ F16.rf hC
        · rw [if_pos h22] at hV
          subst hV
          iterate 4 refine hS _ _ _ _ ?_
          refine ⟨(by first | assumption | exact vp_in_nI (by simp only [alen]; omega) (by decide)), ?_⟩
          try rw [nI_clamp (by omega)]
          iterate 3 refine hS _ _ _ _ ?_
          refine sp_clear (by omega) (fun M1 f1 a1 a2 a3 => ?_)
          iterate 2 refine hS _ _ _ _ ?_
          exact hQ M1 (f16_set hj f1) (crw_set hC f1 a1 a2 a3)
      · iterate 2 refine hS _ _ _ _ ?_
        rw [sheetP, itP_f (fun z => z.2.2 (nle_lt h14))] at hV
        subst hV
        exact hQ _ F16.rf hC
theorem mrw_set {M1 : Mem} {s : Nat} {v : Int32 × Int32 × FA} (hC : MRw M R) (h58 : ∀ t, t < 4 → M1 58 0 0 t = if t = s then v.1 else M 58 0 0 t) (h59 : ∀ t, t < 4 → M1 59 0 0 t = if t = s then v.2.1 else M 59 0 0 t) (h60 : ∀ t k, t < 4 → k < 24 → M1 60 0 0 (24 * t + k) = if t = s then v.2.2 k else M 60 0 0 (24 * t + k)) : MRw M1 (setR R s v) := by
  intro t ht
  unfold setR
  rw [h58 t ht, h59 t ht]
  by_cases z : t = s
  · subst z
    rw [if_pos rfl, if_pos rfl, if_pos rfl]
    exact ⟨rfl, rfl, fun k hk => by rw [h60 t k ht hk, if_pos rfl]⟩
  · rw [if_neg z, if_neg z, if_neg z]
    obtain ⟨a, b, c⟩ := hC t ht
    exact ⟨a, b, fun k hk => by rw [h60 t k ht hk, if_neg z]; exact c k hk⟩
theorem m_sheet {s : Int32} (hd : 500 ≤ d) (hC : MRw M R) (hW : RWf R) (hQ : ∀ M2, F58 M M2 → MRw M2 (sheetP R s o n).2 → Q (some (.inl (sheetP R s o n).1)) M2) : Td PR d 203 [.inr (30, 0, 0), .inl s, .inl o, .inl n] M Q := by
  generalize hV : sheetP R s o n = W at hQ
  obtain ⟨e, rfl⟩ : ∃ e, d = e + 1 := ⟨d - 1, by omega⟩
  refine td_X10_sheet ?_
  intro S hS
  have lp : ∀ j, j < 4 → ∀ z, (∀ M2, F58 M M2 → MRw M2 (setR R j (o, z, fun _ => 0)) → Q (some (.inl z)) M2) → ∀ M0, F58 M M0 → (∀ t, t < 4 → M0 58 0 0 t = if t = j then o else M 58 0 0 t) → (∀ t, t < 4 → M0 59 0 0 t = if t = j then z else M 59 0 0 t) → M0 60 = M 60 → S 66 [some (.inr (30, 0, 0)), some (.inl (nI j)), some (.inl o), some (.inl n), some (.inl 0)] [] M0 := by
    intro j hj z hQ M0 a1 a2 a3 a4
    refine lp_up (T := fun i => ∀ M0, F58 M M0 → (∀ t, t < 4 → M0 58 0 0 t = if t = j then o else M 58 0 0 t) → (∀ t, t < 4 → M0 59 0 0 t = if t = j then z else M 59 0 0 t) → (∀ x, M0 60 0 0 x = if 24 * j ≤ x ∧ x < 24 * j + i then 0 else M 60 0 0 x) → S 66 [some (.inr (30, 0, 0)), some (.inl (nI j)), some (.inl o), some (.inl n), some (.inl (nI i))] [] M0) (N := 24) ?_ ?_ 0 (Nat.zero_le _) M0 a1 a2 a3 (fun x => by rw [if_neg (by omega), a4])
    · intro M0 a1 a2 a3 a4
      have e := a3 j hj
      rw [if_pos rfl] at e
      iterate 3 refine hS _ _ _ _ ?_
      refine And.intro (fun h70 => ?_) (fun h70 => ?_)
      · iterate 4 refine hS _ _ _ _ ?_
        refine ⟨(by first | assumption | exact vp_in_nI (by simp only [alen]; omega) (by decide)), ?_⟩
        try rw [nI_clamp (by omega)]
        refine hS _ _ _ _ ?_
        refine qv (hQ M0 a1 (mrw_set hC a2 a3 (fun t k ht hk => ?_))) e.symm
        rw [a4]
        by_cases y : t = j
        · rw [if_pos y, if_pos (by omega)]
        · rw [if_neg y, if_neg (by omega)]
      · exact (lp_x (n := 24) rfl h70).elim
    · intro i hi ih M0 a1 a2 a3 a4
      rw [nI_succ i] at ih
      have ix : (24 : Int32) * nI j + nI i = nI (24 * j + i) := by
        show nI 24 * nI j + nI i = _
        rw [nI_mul, nI_add]
      iterate 3 refine hS _ _ _ _ ?_
      refine And.intro (fun h70 => ?_) (fun h70 => ?_)
      · exact (lp_s (n := 24) rfl hi (by omega) h70).elim
      · iterate 9 refine hS _ _ _ _ ?_
        rw [ix]
        refine ⟨(by first | assumption | exact vp_in_nI (by simp only [alen]; omega) (by decide)), ?_⟩
        try rw [nI_clamp (by omega)]
        iterate 2 refine hS _ _ _ _ ?_
        refine ih (mu M0 60 0 0 (24 * j + i) 0) (fun k b1 b2 b3 b4 => (mz_k b3).trans (a1 k b1 b2 b3 b4)) a2 a3 (fun x => ?_)
        by_cases y : x = 24 * j + i
        · subst y; rw [mz_at, if_pos (by omega)]
        · rw [upd_mu, upd_ne y, a4]
          by_cases w : 24 * j ≤ x ∧ x < 24 * j + i
          · rw [if_pos w, if_pos (by omega)]
          · rw [if_neg w, if_neg (by omega)]
  iterate 2 refine hS _ _ _ _ ?_
  refine sm_isSheet (by omega) ?_
  refine hS _ _ _ _ ?_
  refine And.intro (fun h4 => ?_) (fun h4 => ?_)
  · replace h4 := bI_f h4
    iterate 2 refine hS _ _ _ _ ?_
    rw [sheetP, itP_f (fun z => h4 z.1)] at hV
    subst hV
    exact hQ _ F58.rf hC
  · replace h4 := bI_t h4
    iterate 4 refine hS _ _ _ _ ?_
    refine sm_in (by omega) ?_
    refine hS _ _ _ _ ?_
    refine And.intro (fun h13 => ?_) (fun h13 => ?_)
    · replace h13 := bI_f h13
      iterate 2 refine hS _ _ _ _ ?_
      rw [sheetP, itP_f (fun z => h13 z.2)] at hV
      subst hV
      exact hQ _ F58.rf hC
    · replace h13 := bI_t h13
      rw [sheetP, itP_t ⟨h4, h13⟩] at hV
      obtain ⟨j, hj, rfl⟩ := h4
      rw [nI_clamp (by omega)] at hV
      iterate 2 refine hS _ _ _ _ ?_
      refine And.intro (fun h17 => ?_) (fun h17 => ?_)
      · have ho : o = -1 := (so_c h13).resolve_right (fun z => z.elim (fun y => absurd h17 (by rw [y]; decide)) (fun y => absurd h17 (by rw [y]; decide)))
        rw [if_pos ho] at hV
        subst hV
        iterate 2 refine hS _ _ _ _ ?_
        refine And.intro (fun h30 => ?_) (fun h30 => ?_)
        · iterate 5 refine hS _ _ _ _ ?_
          refine ⟨(by first | assumption | exact vp_in_nI (by simp only [alen]; omega) (by decide)), ?_⟩
          try rw [nI_clamp (by omega)]
          iterate 5 refine hS _ _ _ _ ?_
          refine And.intro (fun h54 => ?_) (fun h54 => ?_)
          · exact absurd (show 0 ≤ o from h54) (Int32.not_le.mpr h17)
          · iterate 3 refine hS _ _ _ _ ?_
            refine ⟨(by first | assumption | exact vp_in_nI (by simp only [alen]; omega) (by decide)), ?_⟩
            try rw [nI_clamp (by omega)]
            iterate 2 refine hS _ _ _ _ ?_
            subst ho
            exact lp j hj 0 hQ _ (fun k b1 b2 b3 b4 => (mz_k b2).trans (mz_k b1)) (fun t ht => by
              by_cases y : t = j
              · subst y; rw [if_pos rfl]; exact (show mu M 58 0 0 t (-1) 58 0 0 t = -1 from mz_at)
              · rw [if_neg y]; show mu M 58 0 0 j (-1) 58 0 0 t = _; rw [upd_mu, upd_ne y]) (fun t ht => by
              by_cases y : t = j
              · subst y; rw [if_pos rfl]; exact mz_at
              · rw [if_neg y, upd_mu, upd_ne y]; rfl) rfl
        · exact absurd h17 h30
      · have ho : ¬ o = -1 := fun y => h17 (by rw [y]; decide)
        rw [if_neg ho] at hV
        iterate 3 refine hS _ _ _ _ ?_
        refine And.intro (fun h23 => ?_) (fun h23 => ?_)
        · rw [if_neg (Int32.not_lt.mpr h23)] at hV
          iterate 2 refine hS _ _ _ _ ?_
          refine And.intro (fun h30 => ?_) (fun h30 => ?_)
          · exact absurd h30 h17
          · iterate 2 refine hS _ _ _ _ ?_
            refine And.intro (fun h34 => ?_) (fun h34 => ?_)
            · rw [if_neg (Int32.not_lt.mpr h34)] at hV
              subst hV
              iterate 5 refine hS _ _ _ _ ?_
              refine ⟨(by first | assumption | exact vp_in_nI (by simp only [alen]; omega) (by decide)), ?_⟩
              try rw [nI_clamp (by omega)]
              iterate 5 refine hS _ _ _ _ ?_
              refine And.intro (fun h54 => ?_) (fun h54 => ?_)
              · iterate 2 refine hS _ _ _ _ ?_
                refine ⟨(by first | assumption | exact vp_in_nI (by simp only [alen]; omega) (by decide)), ?_⟩
                try rw [nI_clamp (by omega)]
                iterate 2 refine hS _ _ _ _ ?_
                exact lp j hj n hQ _ (fun k b1 b2 b3 b4 => (mz_k b2).trans (mz_k b1)) (fun t ht => by
                  by_cases y : t = j
                  · subst y; rw [if_pos rfl]; exact (show mu M 58 0 0 t o 58 0 0 t = o from mz_at)
                  · rw [if_neg y]; show mu M 58 0 0 j o 58 0 0 t = _; rw [upd_mu, upd_ne y]) (fun t ht => by
                  by_cases y : t = j
                  · subst y; rw [if_pos rfl]; exact mz_at
                  · rw [if_neg y, upd_mu, upd_ne y]; rfl) rfl
              · exact absurd (Int32.not_lt.mp h17) h54
            · rw [if_pos (nle_lt h34)] at hV
              subst hV
              iterate 2 refine hS _ _ _ _ ?_
              exact hQ _ F58.rf hC
        · rw [if_pos (nle_lt h23)] at hV
          subst hV
          iterate 2 refine hS _ _ _ _ ?_
          exact hQ _ F58.rf hC
theorem op_sheet {s : Int32} : OpOK 97 203 [.inl s, .inl o, .inl n] := op_r (fun R => sheetP R s o n) (fun M R Q d hd hC hW hQ => c_sheet hd hC hW hQ) (fun M R Q d hd hC hW hQ => m_sheet hd hC hW hQ) (fun R h => sheetP_wf h)
end W27
noncomputable def markP (R : RwT) (s p v : Int32) : Int32 × RwT := itP (isBd 4 s) (if (R s.toNatClampNeg).1 = -1 then (-1000000011, R) else itP (isBd (R s.toNatClampNeg).2.1.toNatClampNeg p) (if (R s.toNatClampNeg).1 = 0 then (if v = -1000000005 then (-1000000012, R) else (1, setR R s.toNatClampNeg ((R s.toNatClampNeg).1, (R s.toNatClampNeg).2.1, upd (R s.toNatClampNeg).2.2 p.toNatClampNeg v.toInt16.toInt32))) else (if ¬ v = -1000000005 ∧ (v < -99999 ∨ 99999 < v) then (-1000000001, R) else (1, setR R s.toNatClampNeg ((R s.toNatClampNeg).1, (R s.toNatClampNeg).2.1, upd (R s.toNatClampNeg).2.2 p.toNatClampNeg v)))) (-1000000013, R)) (-1000000001, R)
theorem markP_wf {R : RwT} {s p v : Int32} (h : RWf R) : RWf (markP R s p v).2 := by
  by_cases c : isBd 4 s
  · rw [markP, itP_t c]
    obtain ⟨j, hj, e⟩ := c
    have q := h s.toNatClampNeg (by rw [e, nI_clamp (by omega)]; exact hj)
    split
    · exact h
    · by_cases c2 : isBd (R s.toNatClampNeg).2.1.toNatClampNeg p
      · rw [itP_t c2]
        split
        · split
          · exact h
          · exact setR_wf h q.1 q.2
        · split
          · exact h
          · exact setR_wf h q.1 q.2
      · rw [itP_f c2]
        exact h
  · rw [markP, itP_f c]
    exact h
section W27b
variable {d l b p K : Nat} {M : Mem} {Q : PQ} {R : RwT} {o n v : Int32}
theorem crw_put {s k : Nat} {x : Int32} (hC : CRw M R) : CRw (mu M 17 s 0 k x) (setR R s ((R s).1, (R s).2.1, upd (R s).2.2 k x)) := by
  intro t ht
  obtain ⟨a, b, c⟩ := hC t ht
  unfold setR
  by_cases z : t = s
  · subst z
    rw [if_pos rfl]
    refine ⟨a, b, fun q hq => ?_⟩
    rw [upd_mu]
    show (if q = k then x else M 17 t 0 q) = if q = k then x else (R t).2.2 q
    split
    · rfl
    · exact c q hq
  · rw [if_neg z]
    refine ⟨a, b, fun q hq => ?_⟩
    rw [mz_ne (fun y => z y.2.1)]
    exact c q hq
theorem f16_put {s k : Nat} {x : Int32} (hs : s < 4) : F16 M (mu M 17 s 0 k x) := fun k' i h => by
  unfold mu
  exact mr_out (fun z => h ⟨Or.inr z.1, by rw [z.2]; exact hs⟩)
theorem mrw_put {s k : Nat} {x : Int32} (hk : k < 24) (hC : MRw M R) : MRw (mu M 60 0 0 (24 * s + k) x) (setR R s ((R s).1, (R s).2.1, upd (R s).2.2 k x)) := by
  intro t ht
  obtain ⟨a, b, c⟩ := hC t ht
  unfold setR
  by_cases z : t = s
  · subst z
    rw [if_pos rfl]
    refine ⟨a, b, fun q hq => ?_⟩
    rw [upd_mu]
    show (if 24 * t + q = 24 * t + k then x else M 60 0 0 (24 * t + q)) = if q = k then x else (R t).2.2 q
    by_cases y : q = k
    · rw [if_pos y, if_pos (by omega)]
    · rw [if_neg y, if_neg (by omega)]
      exact c q hq
  · rw [if_neg z]
    refine ⟨a, b, fun q hq => ?_⟩
    rw [upd_mu, upd_ne (by omega)]
    exact c q hq
theorem c_mark {s p : Int32} (hd : 500 ≤ d) (hC : CRw M R) (hW : RWf R) (hQ : ∀ M1, F16 M M1 → CRw M1 (markP R s p v).2 → Q (some (.inl (markP R s p v).1)) M1) : Td PR d 98 [.inr (0, 0, 0), .inl s, .inl p, .inl v] M Q := by
  generalize hV : markP R s p v = W at hQ
  obtain ⟨e, rfl⟩ : ∃ e, d = e + 1 := ⟨d - 1, by omega⟩
  refine td_X9_mark ?_
  intro S hS
  iterate 2 refine hS _ _ _ _ ?_
  refine sp_isSheet (by omega) ?_
  refine hS _ _ _ _ ?_
  refine And.intro (fun h4 => ?_) (fun h4 => ?_)
  · replace h4 := bI_t h4
    rw [markP, itP_t h4] at hV
    obtain ⟨j, hj, rfl⟩ := h4
    rw [nI_clamp (by omega)] at hV
    obtain ⟨c1, c2, c3⟩ := hC j hj
    obtain ⟨w1, n, hn, w2⟩ := hW j hj
    rw [w2] at c2
    rw [w2, nI_clamp (by omega)] at hV
    iterate 4 refine hS _ _ _ _ ?_
    refine ⟨(by first | assumption | exact vp_in_nI (by simp only [alen]; omega) (by decide)), ?_⟩
    try rw [nI_clamp (by omega)]
    iterate 3 refine hS _ _ _ _ ?_
    refine sp_isMissing (by omega) ?_
    rw [c1]
    refine hS _ _ _ _ ?_
    refine And.intro (fun h23 => ?_) (fun h23 => ?_)
    · replace h23 := bI_f h23
      rw [if_neg h23] at hV
      iterate 3 refine hS _ _ _ _ ?_
      refine sp_has (by omega) c2 (by omega) ?_
      refine hS _ _ _ _ ?_
      refine And.intro (fun h35 => ?_) (fun h35 => ?_)
      · replace h35 := bI_t h35
        rw [itP_t h35] at hV
        obtain ⟨q, hq, rfl⟩ := h35
        rw [nI_clamp (by omega)] at hV
        iterate 3 refine hS _ _ _ _ ?_
        refine And.intro (fun h47 => ?_) (fun h47 => ?_)
        · rw [if_neg (fun z => h47 (c1.trans z))] at hV
          iterate 3 refine hS _ _ _ _ ?_
          refine And.intro (fun h73 => ?_) (fun h73 => ?_)
          · have hx : ¬ (¬ v = -1000000005 ∧ (v < -99999 ∨ 99999 < v)) := fun z => z.1 h73
            rw [if_neg hx] at hV
            subst hV
            iterate 6 refine hS _ _ _ _ ?_
            refine And.intro (fun h102 => ?_) (fun h102 => ?_)
            · exact absurd h73 h102
            · iterate 3 refine hS _ _ _ _ ?_
              refine ⟨(by first | assumption | exact vp_in_nI (by simp only [alen]; omega) (by decide)), ?_⟩
              try rw [nI_clamp (by omega)]
              iterate 2 refine hS _ _ _ _ ?_
              have := crw_put (s := j) (k := q) (x := v) hC
              rw [w2] at this
              have hv : v = -1000000005 := h73
              subst hv
              exact hQ _ (f16_put hj) this
          · iterate 3 refine hS _ _ _ _ ?_
            refine And.intro (fun h80 => ?_) (fun h80 => ?_)
            · rw [if_pos ⟨h73, Or.inl h80⟩] at hV
              subst hV
              iterate 2 refine hS _ _ _ _ ?_
              exact hQ _ F16.rf hC
            · iterate 3 refine hS _ _ _ _ ?_
              refine And.intro (fun h87 => ?_) (fun h87 => ?_)
              · have hx : ¬ (¬ v = -1000000005 ∧ (v < -99999 ∨ 99999 < v)) := fun z => z.2.elim h80 (Int32.not_lt.mpr h87)
                rw [if_neg hx] at hV
                subst hV
                iterate 6 refine hS _ _ _ _ ?_
                refine And.intro (fun h102 => ?_) (fun h102 => ?_)
                · iterate 2 refine hS _ _ _ _ ?_
                  refine ⟨(by first | assumption | exact vp_in_nI (by simp only [alen]; omega) (by decide)), ?_⟩
                  try rw [nI_clamp (by omega)]
                  iterate 2 refine hS _ _ _ _ ?_
                  have := crw_put (s := j) (k := q) (x := v) hC
                  rw [w2] at this
                  exact hQ _ (f16_put hj) this
                · exact absurd h102 h73
              · rw [if_pos ⟨h73, Or.inr (nle_lt h87)⟩] at hV
                subst hV
                iterate 2 refine hS _ _ _ _ ?_
                exact hQ _ F16.rf hC
        · rw [if_pos (c1.symm.trans h47)] at hV
          iterate 3 refine hS _ _ _ _ ?_
          refine And.intro (fun h53 => ?_) (fun h53 => ?_)
          · rw [if_neg h53] at hV
            subst hV
            iterate 6 refine hS _ _ _ _ ?_
            refine ⟨(by first | assumption | exact vp_in_nI (by simp only [alen]; omega) (by decide)), ?_⟩
            try rw [nI_clamp (by omega)]
            iterate 2 refine hS _ _ _ _ ?_
            exact hQ _ (f16_put hj) (by have := crw_put (s := j) (k := q) (x := v.toInt16.toInt32) hC; rw [w2] at this; exact this)
          · rw [if_pos h53] at hV
            subst hV
            iterate 2 refine hS _ _ _ _ ?_
            exact hQ _ F16.rf hC
      · replace h35 := bI_f h35
        rw [itP_f h35] at hV
        subst hV
        iterate 2 refine hS _ _ _ _ ?_
        exact hQ _ F16.rf hC
    · replace h23 := bI_t h23
      rw [if_pos h23] at hV
      subst hV
      iterate 2 refine hS _ _ _ _ ?_
      exact hQ _ F16.rf hC
  · replace h4 := bI_f h4
    iterate 2 refine hS _ _ _ _ ?_
    rw [markP, itP_f h4] at hV
    subst hV
    exact hQ _ F16.rf hC
theorem m_mark {s p : Int32} (hd : 500 ≤ d) (hC : MRw M R) (hW : RWf R) (hQ : ∀ M2, F58 M M2 → MRw M2 (markP R s p v).2 → Q (some (.inl (markP R s p v).1)) M2) : Td PR d 204 [.inr (30, 0, 0), .inl s, .inl p, .inl v] M Q := by
  generalize hV : markP R s p v = W at hQ
  have f60 : ∀ q x, F58 M (mu M 60 0 0 q x) := fun q x k a b c d => mz_k c
  obtain ⟨e, rfl⟩ : ∃ e, d = e + 1 := ⟨d - 1, by omega⟩
  refine td_X10_mark ?_
  intro S hS
  iterate 2 refine hS _ _ _ _ ?_
  refine sm_isSheet (by omega) ?_
  refine hS _ _ _ _ ?_
  refine And.intro (fun h4 => ?_) (fun h4 => ?_)
  · replace h4 := bI_t h4
    rw [markP, itP_t h4] at hV
    obtain ⟨j, hj, rfl⟩ := h4
    rw [nI_clamp (by omega)] at hV
    obtain ⟨c1, c2, c3⟩ := hC j hj
    obtain ⟨w1, n, hn, w2⟩ := hW j hj
    rw [w2] at c2
    rw [w2, nI_clamp (by omega)] at hV
    iterate 4 refine hS _ _ _ _ ?_
    refine ⟨(by first | assumption | exact vp_in_nI (by simp only [alen]; omega) (by decide)), ?_⟩
    try rw [nI_clamp (by omega)]
    refine hS _ _ _ _ ?_
    refine And.intro (fun h16 => ?_) (fun h16 => ?_)
    · have hx : ¬ (R j).1 = -1 := fun z => absurd (show 0 ≤ M 58 0 0 j from h16) (by rw [c1, z]; decide)
      rw [if_neg hx] at hV
      iterate 6 refine hS _ _ _ _ ?_
      refine ⟨(by first | assumption | exact vp_in_nI (by simp only [alen]; omega) (by decide)), ?_⟩
      rw [nI_clamp (by omega), c2]
      iterate 3 refine hS _ _ _ _ ?_
      refine sm_in (by omega) ?_
      refine hS _ _ _ _ ?_
      refine And.intro (fun h35 => ?_) (fun h35 => ?_)
      · replace h35 := bI_t h35
        replace h35 := (in_bd (n := n) (by omega)).mp h35
        rw [itP_t h35] at hV
        obtain ⟨q, hq, rfl⟩ := h35
        rw [nI_clamp (by omega)] at hV
        have ix : (24 : Int32) * nI j + nI q = nI (24 * j + q) := by
          show nI 24 * nI j + nI q = _
          rw [nI_mul, nI_add]
        iterate 4 refine hS _ _ _ _ ?_
        refine ⟨(by first | assumption | exact vp_in_nI (by simp only [alen]; omega) (by decide)), ?_⟩
        try rw [nI_clamp (by omega)]
        refine hS _ _ _ _ ?_
        refine And.intro (fun h48 => ?_) (fun h48 => ?_)
        · have h48' : ¬ (R j).1 = 0 := by rw [← c1]; exact h48
          rw [if_neg h48'] at hV
          iterate 4 refine hS _ _ _ _ ?_
          refine ⟨(by first | assumption | exact vp_in_nI (by simp only [alen]; omega) (by decide)), ?_⟩
          try rw [nI_clamp (by omega)]
          iterate 2 refine hS _ _ _ _ ?_
          refine And.intro (fun h67 => ?_) (fun h67 => ?_)
          · exact absurd (show M 58 0 0 j = 1 by rw [c1]; exact (w1.resolve_left hx).resolve_left h48') h67
          · iterate 3 refine hS _ _ _ _ ?_
            refine And.intro (fun h73 => ?_) (fun h73 => ?_)
            · have hn : ¬ (¬ v = -1000000005 ∧ (v < -99999 ∨ 99999 < v)) := fun z => z.1 h73
              rw [if_neg hn] at hV
              subst hV
              iterate 11 refine hS _ _ _ _ ?_
              refine ⟨(by first | assumption | exact vp_in_nI (by simp only [alen]; omega) (by decide)), ?_⟩
              try rw [nI_clamp (by omega)]
              refine hS _ _ _ _ ?_
              refine And.intro (fun h108 => ?_) (fun h108 => ?_)
              · iterate 2 refine hS _ _ _ _ ?_
                rw [ix]
                refine ⟨(by first | assumption | exact vp_in_nI (by simp only [alen]; omega) (by decide)), ?_⟩
                try rw [nI_clamp (by omega)]
                iterate 2 refine hS _ _ _ _ ?_
                exact hQ _ (f60 _ _) (by have := mrw_put (s := j) (k := q) (x := v) (by omega) hC; rw [w2] at this; exact this)
              · exact absurd (show M 58 0 0 j = 0 from h108) (by rw [c1]; exact h48')
            · iterate 4 refine hS _ _ _ _ ?_
              refine sm_in (by omega) ?_
              refine hS _ _ _ _ ?_
              refine And.intro (fun h86 => ?_) (fun h86 => ?_)
              · replace h86 := bI_t h86
                have hn : ¬ (¬ v = -1000000005 ∧ (v < -99999 ∨ 99999 < v)) := fun z => z.2.elim h86.1 h86.2
                rw [if_neg hn] at hV
                subst hV
                iterate 11 refine hS _ _ _ _ ?_
                refine ⟨(by first | assumption | exact vp_in_nI (by simp only [alen]; omega) (by decide)), ?_⟩
                try rw [nI_clamp (by omega)]
                refine hS _ _ _ _ ?_
                refine And.intro (fun h108 => ?_) (fun h108 => ?_)
                · iterate 2 refine hS _ _ _ _ ?_
                  rw [ix]
                  refine ⟨(by first | assumption | exact vp_in_nI (by simp only [alen]; omega) (by decide)), ?_⟩
                  try rw [nI_clamp (by omega)]
                  iterate 2 refine hS _ _ _ _ ?_
                  exact hQ _ (f60 _ _) (by have := mrw_put (s := j) (k := q) (x := v) (by omega) hC; rw [w2] at this; exact this)
                · exact absurd (show M 58 0 0 j = 0 from h108) (by rw [c1]; exact h48')
              · replace h86 := bI_f h86
                have hn : ¬ v = -1000000005 ∧ (v < -99999 ∨ 99999 < v) := ⟨h73, Classical.byContradiction fun z => h86 ⟨fun y => z (Or.inl y), fun y => z (Or.inr y)⟩⟩
                rw [if_pos hn] at hV
                subst hV
                iterate 2 refine hS _ _ _ _ ?_
                exact hQ _ F58.rf hC
        · have h48' : (R j).1 = 0 := by rw [← c1]; exact h48
          rw [if_pos h48'] at hV
          iterate 3 refine hS _ _ _ _ ?_
          refine And.intro (fun h54 => ?_) (fun h54 => ?_)
          · rw [if_neg h54] at hV
            subst hV
            iterate 4 refine hS _ _ _ _ ?_
            refine ⟨(by first | assumption | exact vp_in_nI (by simp only [alen]; omega) (by decide)), ?_⟩
            try rw [nI_clamp (by omega)]
            iterate 2 refine hS _ _ _ _ ?_
            refine And.intro (fun h67 => ?_) (fun h67 => ?_)
            · iterate 11 refine hS _ _ _ _ ?_
              refine ⟨(by first | assumption | exact vp_in_nI (by simp only [alen]; omega) (by decide)), ?_⟩
              try rw [nI_clamp (by omega)]
              refine hS _ _ _ _ ?_
              refine And.intro (fun h108 => ?_) (fun h108 => ?_)
              · exact absurd (show M 58 0 0 j = 0 by rw [c1]; exact h48') h108
              · iterate 4 refine hS _ _ _ _ ?_
                rw [ix]
                refine ⟨(by first | assumption | exact vp_in_nI (by simp only [alen]; omega) (by decide)), ?_⟩
                try rw [nI_clamp (by omega)]
                iterate 2 refine hS _ _ _ _ ?_
                exact hQ _ (f60 _ _) (by have := mrw_put (s := j) (k := q) (x := v.toInt16.toInt32) (by omega) hC; rw [w2] at this; exact this)
            · exact absurd (show M 58 0 0 j = 1 from h67) (by rw [c1, h48']; decide)
          · rw [if_pos h54] at hV
            subst hV
            iterate 2 refine hS _ _ _ _ ?_
            exact hQ _ F58.rf hC
      · replace h35 := bI_f h35
        rw [itP_f (fun z => h35 ((in_bd (by omega)).mpr z))] at hV
        subst hV
        iterate 2 refine hS _ _ _ _ ?_
        exact hQ _ F58.rf hC
    · have hx : (R j).1 = -1 := by
        have h16' : ¬ 0 ≤ (R j).1 := by rw [← c1]; exact h16
        rcases w1 with z | z | z
        · exact z
        · exact absurd (by rw [z]; decide) h16'
        · exact absurd (by rw [z]; decide) h16'
      rw [if_pos hx] at hV
      subst hV
      iterate 2 refine hS _ _ _ _ ?_
      exact hQ _ F58.rf hC
  · replace h4 := bI_f h4
    iterate 2 refine hS _ _ _ _ ?_
    rw [markP, itP_f h4] at hV
    subst hV
    exact hQ _ F58.rf hC
theorem op_mark {s p v : Int32} : OpOK 98 204 [.inl s, .inl p, .inl v] := op_r (fun R => markP R s p v) (fun M R Q d hd hC hW hQ => c_mark hd hC hW hQ) (fun M R Q d hd hC hW hQ => m_mark hd hC hW hQ) (fun R h => markP_wf h)
end W27b
