-- 57.pure28: copy, reads, pour
theorem hasall {n : Nat} {p m : Int32} (hn : n ≤ 24) (h1 : ¬ p < 0) (h2 : ¬ m < 0) (h3 : ¬ nI n - m < p) : ∃ pn mn, p = nI pn ∧ m = nI mn ∧ pn + mn ≤ n := by
  obtain ⟨pn, hp, rfl⟩ := nI_of h1
  obtain ⟨mn, hm, rfl⟩ := nI_of h2
  refine ⟨pn, mn, rfl, rfl, ?_⟩
  rcases Nat.lt_or_ge n mn with z | z
  · exfalso
    refine h3 (Int32.lt_of_lt_of_le ?_ (nI_pos' hp))
    rw [Int32.lt_iff_toInt_lt, Int32.toInt_sub, nI_toInt (by omega), nI_toInt hm]
    have e0 : (0 : Int32).toInt = 0 := by decide
    rw [e0, Int.bmod_eq_of_le_mul_two] <;> omega
  · rw [nI_sub z] at h3
    rcases Nat.lt_or_ge n (pn + mn) with y | y
    · exact absurd (nI_lt (show n - mn < pn by omega) hp) h3
    · exact y
noncomputable def cpyP (R : RwT) (a p b q m : Int32) : Int32 × RwT := itP (isBd 4 a ∧ isBd 4 b) (if (R a.toNatClampNeg).1 = -1 ∨ (R b.toNatClampNeg).1 = -1 then (-1000000011, R) else if ¬ (R a.toNatClampNeg).1 = (R b.toNatClampNeg).1 then (-1000000012, R) else itP ((¬ p < 0 ∧ ¬ m < 0 ∧ ¬ (R a.toNatClampNeg).2.1 - m < p) ∧ (¬ q < 0 ∧ ¬ m < 0 ∧ ¬ (R b.toNatClampNeg).2.1 - m < q)) (m, setR R b.toNatClampNeg ((R b.toNatClampNeg).1, (R b.toNatClampNeg).2.1, va_cpy (R a.toNatClampNeg).2.2 (R b.toNatClampNeg).2.2 p.toNatClampNeg q.toNatClampNeg m.toNatClampNeg)) (-1000000013, R)) (-1000000001, R)
theorem cpyP_wf {R : RwT} {a p b q m : Int32} (h : RWf R) : RWf (cpyP R a p b q m).2 := by
  by_cases c : isBd 4 a ∧ isBd 4 b
  · rw [cpyP, itP_t c]
    obtain ⟨j, hj, e⟩ := c.2
    have w := h b.toNatClampNeg (by rw [e, nI_clamp (by omega)]; exact hj)
    split
    · exact h
    · split
      · exact h
      · by_cases c2 : (¬ p < 0 ∧ ¬ m < 0 ∧ ¬ (R a.toNatClampNeg).2.1 - m < p) ∧ (¬ q < 0 ∧ ¬ m < 0 ∧ ¬ (R b.toNatClampNeg).2.1 - m < q)
        · rw [itP_t c2]
          exact setR_wf h w.1 w.2
        · rw [itP_f c2]
          exact h
  · rw [cpyP, itP_f c]
    exact h
section W28
variable {d l K : Nat} {M : Mem} {Q : PQ} {R : RwT} {a p b q m : Int32}
theorem sp_hasAll {s : Nat} {x y : Int32} (hd : 1 ≤ d) (hQ : Q (some (.inl (bI (¬ x < 0 ∧ ¬ y < 0 ∧ ¬ M 16 s 0 1 - y < x)))) M) : Td PR d 52 [.inr (16, s, 0), .inl x, .inl y] M Q := by
  obtain ⟨e, rfl⟩ : ∃ e, d = e + 1 := ⟨d - 1, by omega⟩
  refine td_X5_hasAll ?_
  intro S hS
  iterate 2 refine hS _ _ _ _ ?_
  refine And.intro (fun h1 => ?_) (fun h1 => ?_)
  · iterate 2 refine hS _ _ _ _ ?_
    refine ⟨rfl, ?_⟩
    exact qv hQ (bI_n (fun z => z.1 h1))
  · iterate 2 refine hS _ _ _ _ ?_
    refine And.intro (fun h5 => ?_) (fun h5 => ?_)
    · iterate 2 refine hS _ _ _ _ ?_
      refine ⟨rfl, ?_⟩
      exact qv hQ (bI_n (fun z => z.2.1 h5))
    · iterate 6 refine hS _ _ _ _ ?_
      refine And.intro (fun h15 => ?_) (fun h15 => ?_)
      · iterate 2 refine hS _ _ _ _ ?_
        refine ⟨rfl, ?_⟩
        exact qv hQ (bI_n (fun z => z.2.2 h15))
      · iterate 3 refine hS _ _ _ _ ?_
        refine ⟨rfl, ?_⟩
        exact qv hQ (bI_p ⟨h1, h5, h15⟩)
theorem c_copy (hd : 500 ≤ d) (hC : CRw M R) (hW : RWf R) (hQ : ∀ M1, F16 M M1 → CRw M1 (cpyP R a p b q m).2 → Q (some (.inl (cpyP R a p b q m).1)) M1) : Td PR d 101 [.inr (0, 0, 0), .inl a, .inl p, .inl b, .inl q, .inl m] M Q := by
  generalize hV : cpyP R a p b q m = W at hQ
  obtain ⟨e, rfl⟩ : ∃ e, d = e + 1 := ⟨d - 1, by omega⟩
  refine td_X9_copy ?_
  intro S hS
  iterate 2 refine hS _ _ _ _ ?_
  refine sp_isSheet (by omega) ?_
  refine hS _ _ _ _ ?_
  refine And.intro (fun h4 => ?_) (fun h4 => ?_)
  · replace h4 := bI_f h4
    iterate 2 refine hS _ _ _ _ ?_
    rw [cpyP, itP_f (fun z => h4 z.1)] at hV
    subst hV
    exact hQ _ F16.rf hC
  · replace h4 := bI_t h4
    iterate 2 refine hS _ _ _ _ ?_
    refine sp_isSheet (by omega) ?_
    refine hS _ _ _ _ ?_
    refine And.intro (fun h11 => ?_) (fun h11 => ?_)
    · replace h11 := bI_t h11
      rw [cpyP, itP_t ⟨h4, h11⟩] at hV
      obtain ⟨i, hi, rfl⟩ := h4
      obtain ⟨j, hj, rfl⟩ := h11
      rw [nI_clamp (by omega), nI_clamp (by omega)] at hV
      obtain ⟨c1, c2, c3⟩ := hC i hi
      obtain ⟨e1, e2, e3⟩ := hC j hj
      obtain ⟨w1, n, hn, w2⟩ := hW i hi
      obtain ⟨x1, n2, hn2, x2⟩ := hW j hj
      iterate 4 refine hS _ _ _ _ ?_
      refine ⟨(by first | assumption | exact vp_in_nI (by simp only [alen]; omega) (by decide)), ?_⟩
      try rw [nI_clamp (by omega)]
      iterate 5 refine hS _ _ _ _ ?_
      refine ⟨(by first | assumption | exact vp_in_nI (by simp only [alen]; omega) (by decide)), ?_⟩
      try rw [nI_clamp (by omega)]
      iterate 3 refine hS _ _ _ _ ?_
      refine sp_isMissing (by omega) ?_
      rw [c1]
      refine hS _ _ _ _ ?_
      refine And.intro (fun h38 => ?_) (fun h38 => ?_)
      · replace h38 := bI_t h38
        rw [if_pos (Or.inl h38)] at hV
        subst hV
        iterate 2 refine hS _ _ _ _ ?_
        exact hQ _ F16.rf hC
      · replace h38 := bI_f h38
        iterate 2 refine hS _ _ _ _ ?_
        refine sp_isMissing (by omega) ?_
        rw [e1]
        refine hS _ _ _ _ ?_
        refine And.intro (fun h46 => ?_) (fun h46 => ?_)
        · replace h46 := bI_f h46
          rw [if_neg (fun z => z.elim h38 h46)] at hV
          iterate 5 refine hS _ _ _ _ ?_
          refine And.intro (fun h62 => ?_) (fun h62 => ?_)
          · have h62' : (R i).1 = (R j).1 := by rw [← c1, ← e1]; exact h62
            rw [if_neg (fun z => z h62')] at hV
            iterate 4 refine hS _ _ _ _ ?_
            refine sp_hasAll (by omega) ?_
            rw [c2]
            refine hS _ _ _ _ ?_
            refine And.intro (fun h76 => ?_) (fun h76 => ?_)
            · replace h76 := bI_f h76
              rw [itP_f (fun z => h76 z.1)] at hV
              subst hV
              iterate 2 refine hS _ _ _ _ ?_
              exact hQ _ F16.rf hC
            · replace h76 := bI_t h76
              iterate 4 refine hS _ _ _ _ ?_
              refine sp_hasAll (by omega) ?_
              rw [e2]
              refine hS _ _ _ _ ?_
              refine And.intro (fun h88 => ?_) (fun h88 => ?_)
              · replace h88 := bI_t h88
                rw [itP_t ⟨h76, h88⟩] at hV
                subst hV
                rw [w2] at h76
                rw [x2] at h88
                obtain ⟨pn, mn, rfl, rfl, hpm⟩ := hasall (by omega) h76.1 h76.2.1 h76.2.2
                obtain ⟨qn, mn2, rfl, hmm, hqm⟩ := hasall (by omega) h88.1 h88.2.1 h88.2.2
                have emn := (nI_eq (by omega) (by omega)).mp hmm
                subst emn
                rw [nI_clamp (by omega), nI_clamp (by omega), nI_clamp (by omega)] at hQ
                iterate 8 refine hS _ _ _ _ ?_
                refine ⟨⟨nI_pos (by omega), nI_pos (by omega), nI_pos (by omega), by rw [nI_clamp (by omega), nI_clamp (by omega)]; simp only [alen]; omega, by rw [nI_clamp (by omega), nI_clamp (by omega)]; simp only [alen]; omega⟩, ?_⟩
                rw [nI_clamp (by omega), nI_clamp (by omega), nI_clamp (by omega)]
                iterate 2 refine hS _ _ _ _ ?_
                refine hQ _ (fun k' i' h => mr_out (fun z => h ⟨Or.inr z.1, by rw [z.2]; exact hj⟩)) ?_
                refine crw_set hC (fun k' i' h => mr_out (fun z => h ⟨Or.inr z.1, z.2⟩)) e1 e2 (fun k hk => ?_)
                rw [mr_same]
                show (if qn ≤ k ∧ k < qn + mn then M 17 i 0 (pn + (k - qn)) else M 17 j 0 k) = (if qn ≤ k ∧ k < qn + mn then (R i).2.2 (pn + (k - qn)) else (R j).2.2 k)
                split
                · exact c3 _ (by omega)
                · exact e3 k hk
              · replace h88 := bI_f h88
                rw [itP_f (fun z => h88 z.2)] at hV
                subst hV
                iterate 2 refine hS _ _ _ _ ?_
                exact hQ _ F16.rf hC
          · have h62' : ¬ (R i).1 = (R j).1 := by rw [← c1, ← e1]; exact h62
            rw [if_pos h62'] at hV
            subst hV
            iterate 2 refine hS _ _ _ _ ?_
            exact hQ _ F16.rf hC
        · replace h46 := bI_t h46
          rw [if_pos (Or.inr h46)] at hV
          subst hV
          iterate 2 refine hS _ _ _ _ ?_
          exact hQ _ F16.rf hC
    · replace h11 := bI_f h11
      iterate 2 refine hS _ _ _ _ ?_
      rw [cpyP, itP_f (fun z => h11 z.2)] at hV
      subst hV
      exact hQ _ F16.rf hC
theorem m_copy (hd : 500 ≤ d) (hC : MRw M R) (hW : RWf R) (hQ : ∀ M2, F58 M M2 → MRw M2 (cpyP R a p b q m).2 → Q (some (.inl (cpyP R a p b q m).1)) M2) : Td PR d 207 [.inr (30, 0, 0), .inl a, .inl p, .inl b, .inl q, .inl m] M Q := by
  generalize hV : cpyP R a p b q m = W at hQ
  obtain ⟨e, rfl⟩ : ∃ e, d = e + 1 := ⟨d - 1, by omega⟩
  refine td_X10_copy ?_
  intro S hS
  have lp : ∀ i j pn qn mn, i < 4 → j < 4 → pn + mn ≤ 24 → qn + mn ≤ 24 → (∀ M2, F58 M M2 → MRw M2 (setR R j ((R j).1, (R j).2.1, va_cpy (R i).2.2 (R j).2.2 pn qn mn)) → Q (some (.inl (nI mn))) M2) → S 104 [some (.inr (30, 0, 0)), some (.inl (nI i)), some (.inl (nI pn)), some (.inl (nI j)), some (.inl (nI qn)), some (.inl (nI mn)), some (.inl 0)] [] M := by
    intro i j pn qn mn hi hj h1 h2 hQ
    obtain ⟨c1, c2, c3⟩ := hC i hi
    obtain ⟨e1, e2, e3⟩ := hC j hj
    have l2 : ∀ M0, (∀ k, k ≠ 65 → M0 k = M k) → (∀ x, x < mn → M0 65 0 0 x = M 60 0 0 (24 * i + (pn + x))) → S 141 [some (.inr (30, 0, 0)), some (.inl (nI i)), some (.inl (nI pn)), some (.inl (nI j)), some (.inl (nI qn)), some (.inl (nI mn)), some (.inl 0)] [] M0 := by
      intro M0 a1 a2
      refine lp_up (T := fun t => ∀ M1, (∀ k, k ≠ 60 → M1 k = M0 k) → (∀ x, M1 60 0 0 x = if 24 * j + qn ≤ x ∧ x < 24 * j + qn + t then M0 65 0 0 (x - (24 * j + qn)) else M 60 0 0 x) → S 141 [some (.inr (30, 0, 0)), some (.inl (nI i)), some (.inl (nI pn)), some (.inl (nI j)), some (.inl (nI qn)), some (.inl (nI mn)), some (.inl (nI t))] [] M1) (N := mn) ?_ ?_ 0 (Nat.zero_le _) M0 (fun _ _ => rfl) (fun x => by rw [if_neg (by omega), a1 60 (by decide)])
      · intro M1 b1 b2
        iterate 3 refine hS _ _ _ _ ?_
        refine And.intro (fun h145 => ?_) (fun h145 => ?_)
        · iterate 2 refine hS _ _ _ _ ?_
          refine hQ M1 (fun k x1 x2 x3 x4 => (b1 k x3).trans (a1 k x4)) (mrw_set hC (fun t ht => ?_) (fun t ht => ?_) (fun t k ht hk => ?_))
          · rw [b1 58 (by decide), a1 58 (by decide)]
            split
            · rename_i z; subst z; exact e1
            · rfl
          · rw [b1 59 (by decide), a1 59 (by decide)]
            split
            · rename_i z; subst z; exact e2
            · rfl
          · rw [b2]
            by_cases z : t = j
            · subst z
              rw [if_pos rfl]
              show _ = if qn ≤ k ∧ k < qn + mn then (R i).2.2 (pn + (k - qn)) else (R t).2.2 k
              by_cases y : qn ≤ k ∧ k < qn + mn
              · rw [if_pos (by omega), if_pos y, a2 _ (by omega), ← c3 _ (by omega)]
                exact congrArg _ (by omega)
              · rw [if_neg (by omega), if_neg y]
                exact e3 k hk
            · rw [if_neg z, if_neg (by omega)]
        · exact (lp_x rfl h145).elim
      · intro t ht ih M1 b1 b2
        rw [nI_succ t] at ih
        have ix : (24 : Int32) * nI j + nI qn + nI t = nI (24 * j + qn + t) := by
          show nI 24 * nI j + nI qn + nI t = _
          rw [nI_mul, nI_add, nI_add]
        iterate 3 refine hS _ _ _ _ ?_
        refine And.intro (fun h145 => ?_) (fun h145 => ?_)
        · exact (lp_s rfl ht (by omega) h145).elim
        · iterate 13 refine hS _ _ _ _ ?_
          refine ⟨(by first | assumption | exact vp_in_nI (by simp only [alen]; omega) (by decide)), ?_⟩
          try rw [nI_clamp (by omega)]
          refine hS _ _ _ _ ?_
          rw [ix]
          refine ⟨(by first | assumption | exact vp_in_nI (by simp only [alen]; omega) (by decide)), ?_⟩
          try rw [nI_clamp (by omega)]
          iterate 2 refine hS _ _ _ _ ?_
          refine ih (mu M1 60 0 0 (24 * j + qn + t) (M1 65 0 0 t)) (fun k hk => (mz_k hk).trans (b1 k hk)) (fun x => ?_)
          by_cases y : x = 24 * j + qn + t
          · subst y
            rw [mz_at, if_pos (by omega), b1 65 (by decide)]
            exact congrArg _ (by omega)
          · rw [upd_mu, upd_ne y, b2]
            by_cases w : 24 * j + qn ≤ x ∧ x < 24 * j + qn + t
            · rw [if_pos w, if_pos (by omega)]
            · rw [if_neg w, if_neg (by omega)]
    refine lp_up (T := fun t => ∀ M0, (∀ k, k ≠ 65 → M0 k = M k) → (∀ x, x < t → M0 65 0 0 x = M 60 0 0 (24 * i + (pn + x))) → S 104 [some (.inr (30, 0, 0)), some (.inl (nI i)), some (.inl (nI pn)), some (.inl (nI j)), some (.inl (nI qn)), some (.inl (nI mn)), some (.inl (nI t))] [] M0) (N := mn) ?_ ?_ 0 (Nat.zero_le _) M (fun _ _ => rfl) (fun x h => absurd h (Nat.not_lt_zero _))
    · intro M0 a1 a2
      iterate 3 refine hS _ _ _ _ ?_
      refine And.intro (fun h108 => ?_) (fun h108 => ?_)
      · iterate 2 refine hS _ _ _ _ ?_
        exact l2 M0 a1 a2
      · exact (lp_x rfl h108).elim
    · intro t ht ih M0 a1 a2
      rw [nI_succ t] at ih
      have ix : (24 : Int32) * nI i + nI pn + nI t = nI (24 * i + pn + t) := by
        show nI 24 * nI i + nI pn + nI t = _
        rw [nI_mul, nI_add, nI_add]
      iterate 3 refine hS _ _ _ _ ?_
      refine And.intro (fun h108 => ?_) (fun h108 => ?_)
      · exact (lp_s rfl ht (by omega) h108).elim
      · iterate 13 refine hS _ _ _ _ ?_
        rw [ix]
        refine ⟨(by first | assumption | exact vp_in_nI (by simp only [alen]; omega) (by decide)), ?_⟩
        try rw [nI_clamp (by omega)]
        refine hS _ _ _ _ ?_
        refine ⟨(by first | assumption | exact vp_in_nI (by simp only [alen]; omega) (by decide)), ?_⟩
        try rw [nI_clamp (by omega)]
        iterate 2 refine hS _ _ _ _ ?_
        refine ih (mu M0 65 0 0 t (M0 60 0 0 (24 * i + pn + t))) (fun k hk => (mz_k hk).trans (a1 k hk)) (fun x hx => ?_)
        by_cases y : x = t
        · subst y
          rw [mz_at, a1 60 (by decide)]
          exact congrArg _ (by omega)
        · rw [upd_mu, upd_ne y]; exact a2 x (by omega)
  iterate 2 refine hS _ _ _ _ ?_
  refine sm_isSheet (by omega) ?_
  refine hS _ _ _ _ ?_
  refine And.intro (fun h4 => ?_) (fun h4 => ?_)
  · replace h4 := bI_f h4
    iterate 2 refine hS _ _ _ _ ?_
    rw [cpyP, itP_f (fun z => h4 z.1)] at hV
    subst hV
    exact hQ _ F58.rf hC
  · replace h4 := bI_t h4
    iterate 2 refine hS _ _ _ _ ?_
    refine sm_isSheet (by omega) ?_
    refine hS _ _ _ _ ?_
    refine And.intro (fun h11 => ?_) (fun h11 => ?_)
    · replace h11 := bI_t h11
      rw [cpyP, itP_t ⟨h4, h11⟩] at hV
      obtain ⟨i, hi, rfl⟩ := h4
      obtain ⟨j, hj, rfl⟩ := h11
      rw [nI_clamp (by omega), nI_clamp (by omega)] at hV
      obtain ⟨c1, c2, c3⟩ := hC i hi
      obtain ⟨e1, e2, e3⟩ := hC j hj
      obtain ⟨w1, n, hn, w2⟩ := hW i hi
      obtain ⟨x1, n2, hn2, x2⟩ := hW j hj
      have ng : ∀ y : Int32, (y = -1 ∨ y = 0 ∨ y = 1) → (y < 0 ↔ y = -1) := by
        intro y hy
        rcases hy with z | z | z <;> rw [z] <;> decide
      iterate 4 refine hS _ _ _ _ ?_
      refine ⟨(by first | assumption | exact vp_in_nI (by simp only [alen]; omega) (by decide)), ?_⟩
      try rw [nI_clamp (by omega)]
      refine hS _ _ _ _ ?_
      refine And.intro (fun h23 => ?_) (fun h23 => ?_)
      · have hx := (ng _ w1).mp (by rw [← c1]; exact h23)
        rw [if_pos (Or.inl hx)] at hV
        subst hV
        iterate 2 refine hS _ _ _ _ ?_
        exact hQ _ F58.rf hC
      · have hx : ¬ (R i).1 = -1 := fun z => h23 (by rw [c1]; exact (ng _ w1).mpr z)
        iterate 4 refine hS _ _ _ _ ?_
        refine ⟨(by first | assumption | exact vp_in_nI (by simp only [alen]; omega) (by decide)), ?_⟩
        try rw [nI_clamp (by omega)]
        refine hS _ _ _ _ ?_
        refine And.intro (fun h32 => ?_) (fun h32 => ?_)
        · have hy : ¬ (R j).1 = -1 := fun z => absurd h32 (by rw [e1]; exact Int32.not_le.mpr ((ng _ x1).mpr z))
          rw [if_neg (fun z => z.elim hx hy)] at hV
          iterate 4 refine hS _ _ _ _ ?_
          refine ⟨(by first | assumption | exact vp_in_nI (by simp only [alen]; omega) (by decide)), ?_⟩
          try rw [nI_clamp (by omega)]
          iterate 4 refine hS _ _ _ _ ?_
          refine ⟨(by first | assumption | exact vp_in_nI (by simp only [alen]; omega) (by decide)), ?_⟩
          try rw [nI_clamp (by omega)]
          refine hS _ _ _ _ ?_
          refine And.intro (fun h50 => ?_) (fun h50 => ?_)
          · have h50' : (R i).1 = (R j).1 := by rw [← c1, ← e1]; exact h50
            rw [if_neg (fun z => z h50')] at hV
            iterate 2 refine hS _ _ _ _ ?_
            refine And.intro (fun h57 => ?_) (fun h57 => ?_)
            · rw [itP_f (fun z => z.1.1 h57)] at hV
              subst hV
              iterate 2 refine hS _ _ _ _ ?_
              exact hQ _ F58.rf hC
            · iterate 2 refine hS _ _ _ _ ?_
              refine And.intro (fun h62 => ?_) (fun h62 => ?_)
              · rw [itP_f (fun z => z.2.1 h62)] at hV
                subst hV
                iterate 2 refine hS _ _ _ _ ?_
                exact hQ _ F58.rf hC
              · iterate 2 refine hS _ _ _ _ ?_
                refine And.intro (fun h67 => ?_) (fun h67 => ?_)
                · rw [itP_f (fun z => z.1.2.1 h67)] at hV
                  subst hV
                  iterate 2 refine hS _ _ _ _ ?_
                  exact hQ _ F58.rf hC
                · iterate 5 refine hS _ _ _ _ ?_
                  refine ⟨(by first | assumption | exact vp_in_nI (by simp only [alen]; omega) (by decide)), ?_⟩
                  rw [nI_clamp (by omega), c2]
                  iterate 3 refine hS _ _ _ _ ?_
                  refine And.intro (fun h80 => ?_) (fun h80 => ?_)
                  · rw [itP_f (fun z => z.1.2.2 h80)] at hV
                    subst hV
                    iterate 2 refine hS _ _ _ _ ?_
                    exact hQ _ F58.rf hC
                  · iterate 5 refine hS _ _ _ _ ?_
                    refine ⟨(by first | assumption | exact vp_in_nI (by simp only [alen]; omega) (by decide)), ?_⟩
                    rw [nI_clamp (by omega), e2]
                    iterate 3 refine hS _ _ _ _ ?_
                    refine And.intro (fun h94 => ?_) (fun h94 => ?_)
                    · have h94' := Int32.not_lt.mpr h94
                      rw [itP_t ⟨⟨h57, h67, h80⟩, ⟨h62, h67, h94'⟩⟩] at hV
                      subst hV
                      rw [w2] at h80
                      rw [x2] at h94'
                      obtain ⟨pn, mn, rfl, rfl, hpm⟩ := hasall (by omega) h57 h67 h80
                      obtain ⟨qn, mn2, rfl, hmm, hqm⟩ := hasall (by omega) h62 h67 h94'
                      have emn := (nI_eq (by omega) (by omega)).mp hmm
                      subst emn
                      rw [nI_clamp (by omega), nI_clamp (by omega), nI_clamp (by omega)] at hQ
                      iterate 2 refine hS _ _ _ _ ?_
                      exact lp i j pn qn mn hi hj (by omega) (by omega) hQ
                    · rw [itP_f (fun z => z.2.2.2 (nle_lt h94))] at hV
                      subst hV
                      iterate 2 refine hS _ _ _ _ ?_
                      exact hQ _ F58.rf hC
          · have h50' : ¬ (R i).1 = (R j).1 := by rw [← c1, ← e1]; exact h50
            rw [if_pos h50'] at hV
            subst hV
            iterate 2 refine hS _ _ _ _ ?_
            exact hQ _ F58.rf hC
        · have hy := (ng _ x1).mp (by rw [← e1]; exact nle_lt h32)
          rw [if_pos (Or.inr hy)] at hV
          subst hV
          iterate 2 refine hS _ _ _ _ ?_
          exact hQ _ F58.rf hC
    · replace h11 := bI_f h11
      iterate 2 refine hS _ _ _ _ ?_
      rw [cpyP, itP_f (fun z => h11 z.2)] at hV
      subst hV
      exact hQ _ F58.rf hC
theorem op_copy : OpOK 101 207 [.inl a, .inl p, .inl b, .inl q, .inl m] := op_r (fun R => cpyP R a p b q m) (fun M R Q d hd hC hW hQ => c_copy hd hC hW hQ) (fun M R Q d hd hC hW hQ => m_copy hd hC hW hQ) (fun R h => cpyP_wf h)
end W28
