-- 35.pure6: the reference: what texts give, a night
theorem nI_divn {a b : Nat} (ha : a < 2 ^ 31) (hb : b < 2 ^ 31) : nI a / nI b = nI (a / b) := (Int32.ofNat_div ha hb).symm
theorem irem_nI {a b : Nat} (ha : a < 2 ^ 31) (hb : b < 2 ^ 31) : irem (nI a) (nI b) = nI (a % b) := by
  unfold irem
  rw [nI_divn ha hb, nI_mul, nI_sub (Nat.div_mul_le_self a b)]
  congr 1
  have := Nat.mod_add_div a b
  rw [Nat.mul_comm] at this
  omega
theorem irem2 {x : Int32} (h : ¬ x < 0) : irem x 2 = 0 ∨ irem x 2 = 1 := by
  obtain ⟨n, hn, rfl⟩ := nI_of h
  have e : irem (nI n) 2 = nI (n % 2) := irem_nI hn (by decide)
  rw [e]
  rcases Nat.mod_two_eq_zero_or_one n with z | z <;> rw [z]
  · exact Or.inl rfl
  · exact Or.inr rfl
theorem pcb : ∀ m, m < 512 → 0 < m → nI m &&& (nI m - 1) = nI (m &&& (m - 1)) ∧ (m &&& (m - 1)) < m ∧ pcnt 9 m = pcnt 9 (m &&& (m - 1)) + 1 := by decide +kernel
theorem pcnt_le : ∀ n m, pcnt n m ≤ n := by
  intro n m
  induction n with
  | zero => exact Nat.le_refl _
  | succ n ih => unfold pcnt; split <;> omega
section W6
variable {d b p : Nat} {M : Mem} {Q : PQ}
theorem sm_manyOf {m : Nat} (hd : 1 ≤ d) (hm : m < 512) (hQ : Q (some (.inl (nI (pcnt 9 m)))) M) : Td PR d 152 [.inl (nI m)] M Q := by
  obtain ⟨e, rfl⟩ : ∃ e, d = e + 1 := ⟨d - 1, by omega⟩
  refine td_X10_manyOf ?_
  intro S hS
  have lp : ∀ n, n < 512 → ∀ c, c + pcnt 9 n = pcnt 9 m → S 4 [some (.inl (nI m)), some (.inl (nI c)), some (.inl (nI n))] [] M := by
    intro n
    induction n using Nat.strongRecOn with
    | ind n ih =>
      intro hn c hc
      by_cases h0 : n = 0
      · subst h0
        iterate 2 refine hS _ _ _ _ ?_
        refine And.intro (fun h5 => ?_) (fun h5 => ?_)
        · iterate 2 refine hS _ _ _ _ ?_
          refine qv hQ ?_
          rw [← hc]
          rfl
        · exact absurd rfl h5
      · obtain ⟨q1, q2, q3⟩ := pcb n hn (by omega)
        have := ih _ q2 (by omega) (c + 1) (by omega)
        rw [nI_succ, ← q1] at this
        iterate 2 refine hS _ _ _ _ ?_
        refine And.intro (fun h5 => ?_) (fun h5 => ?_)
        · exact absurd h5 (nI_ne0 (by omega) (by omega))
        · iterate 8 refine hS _ _ _ _ ?_
          exact this
  iterate 4 refine hS _ _ _ _ ?_
  exact lp m hm 0 (by omega)
theorem sm_wideOf (hd : 2 ≤ d) (hb : b < 10) (hQ : Q (some (.inl (wideI (M 31 0 0 (10 + 4 * b))))) M) : Td PR d 133 [.inr (30, 0, 0), .inl (nI b)] M Q := by
  obtain ⟨e, rfl⟩ : ∃ e, d = e + 1 := ⟨d - 1, by omega⟩
  refine td_X10_wideOf ?_
  intro S hS
  iterate 4 refine hS _ _ _ _ ?_
  refine sm_of0 (by omega) (by omega) ?_
  refine hS _ _ _ _ ?_
  refine And.intro (fun h6_2 => ?_) (fun h6_2 => ?_)
  · iterate 2 refine hS _ _ _ _ ?_
    refine qv hQ ?_
    simp_all [wideI]
  refine And.intro (fun h6_3 => ?_) (fun h6_3 => ?_)
  · iterate 2 refine hS _ _ _ _ ?_
    refine qv hQ ?_
    simp_all [wideI]
  refine And.intro (fun h6_4 => ?_) (fun h6_4 => ?_)
  · iterate 2 refine hS _ _ _ _ ?_
    refine qv hQ ?_
    simp_all [wideI]
  refine And.intro (fun h6_5 => ?_) (fun h6_5 => ?_)
  · iterate 2 refine hS _ _ _ _ ?_
    refine qv hQ ?_
    simp_all [wideI]
  iterate 2 refine hS _ _ _ _ ?_
  refine qv hQ ?_
  simp_all [wideI]
theorem sm_takesTo {m : Int32} (hd : 2 ≤ d) (hb : b < 10) (hn : ¬ M 31 0 0 2 < 0) (hQ : Q (some (.inl (takesF (M 31 0 0) b m))) M) : Td PR d 134 [.inr (30, 0, 0), .inl (nI b), .inl m] M Q := by
  have h2 := irem2 hn
  obtain ⟨e, rfl⟩ : ∃ e, d = e + 1 := ⟨d - 1, by omega⟩
  refine td_X10_takesTo ?_
  intro S hS
  iterate 4 refine hS _ _ _ _ ?_
  refine sm_of0 (by omega) (by omega) ?_
  refine hS _ _ _ _ ?_
  refine And.intro (fun h6_1 => ?_) (fun h6_1 => ?_)
  · iterate 3 refine hS _ _ _ _ ?_
    refine And.intro (fun h34 => ?_) (fun h34 => ?_)
    · iterate 4 refine hS _ _ _ _ ?_
      refine sm_of1 (by omega) (by omega) ?_
      refine hS _ _ _ _ ?_
      refine qv hQ ?_
      clear h2
      simp_all [takesF, takesI]
    · iterate 4 refine hS _ _ _ _ ?_
      refine sm_of2 (by omega) (by omega) ?_
      iterate 2 refine hS _ _ _ _ ?_
      refine qv hQ ?_
      clear h2
      simp_all [takesF, takesI]
  refine And.intro (fun h6_4 => ?_) (fun h6_4 => ?_)
  · iterate 4 refine hS _ _ _ _ ?_
    refine ⟨vp_l rfl, ?_⟩
    iterate 2 refine hS _ _ _ _ ?_
    refine ⟨by decide, ?_⟩
    iterate 2 refine hS _ _ _ _ ?_
    refine And.intro (fun h62 => ?_) (fun h62 => ?_)
    · have e0 : irem (M 31 0 0 2) 2 = 0 := h2.resolve_right h62
      iterate 4 refine hS _ _ _ _ ?_
      refine sm_of2 (by omega) (by omega) ?_
      refine hS _ _ _ _ ?_
      refine qv hQ ?_
      clear h2
      simp_all [takesF, takesI]
    · have e1 : ¬ irem (M 31 0 0 2) 2 = 0 := by rw [show irem (M 31 0 0 2) 2 = 1 from h62]; decide
      iterate 4 refine hS _ _ _ _ ?_
      refine sm_of3 (by omega) (by omega) ?_
      iterate 2 refine hS _ _ _ _ ?_
      refine qv hQ ?_
      clear h2
      simp_all [takesF, takesI]
  iterate 4 refine hS _ _ _ _ ?_
  refine sm_of2 (by omega) (by omega) ?_
  refine hS _ _ _ _ ?_
  refine qv hQ ?_
  clear h2
  simp_all [takesF, takesI]
theorem sm_leadsTo (hd : 2 ≤ d) (hb : b < 10) (hQ : Q (some (.inl (leadsI (M 31 0 0 (10 + 4 * b)) (M 31 0 0 (12 + 4 * b)) (M 31 0 0 (13 + 4 * b))))) M) : Td PR d 135 [.inr (30, 0, 0), .inl (nI b)] M Q := by
  obtain ⟨e, rfl⟩ : ∃ e, d = e + 1 := ⟨d - 1, by omega⟩
  refine td_X10_leadsTo ?_
  intro S hS
  iterate 5 refine hS _ _ _ _ ?_
  refine sm_of2 (by omega) (by omega) ?_
  iterate 6 refine hS _ _ _ _ ?_
  refine sm_of0 (by omega) (by omega) ?_
  iterate 2 refine hS _ _ _ _ ?_
  refine And.intro (fun h16 => ?_) (fun h16 => ?_)
  · iterate 2 refine hS _ _ _ _ ?_
    refine qv hQ ?_
    simp_all [leadsI]
  · iterate 6 refine hS _ _ _ _ ?_
    refine sm_of3 (by omega) (by omega) ?_
    iterate 4 refine hS _ _ _ _ ?_
    refine qv hQ ?_
    simp_all [leadsI]
theorem sm_worthOf (hd : 2 ≤ d) (hb : b < 10) (hQ : Q (some (.inl (worthI (M 31 0 0 (10 + 4 * b)) (M 31 0 0 (11 + 4 * b)) (M 31 0 0 (12 + 4 * b)) (M 31 0 0 (13 + 4 * b))))) M) : Td PR d 136 [.inr (30, 0, 0), .inl (nI b)] M Q := by
  obtain ⟨e, rfl⟩ : ∃ e, d = e + 1 := ⟨d - 1, by omega⟩
  refine td_X10_worthOf ?_
  intro S hS
  iterate 4 refine hS _ _ _ _ ?_
  refine sm_of1 (by omega) (by omega) ?_
  iterate 4 refine hS _ _ _ _ ?_
  refine sm_of2 (by omega) (by omega) ?_
  iterate 4 refine hS _ _ _ _ ?_
  refine And.intro (fun h15 => ?_) (fun h15 => ?_)
  · have e15 : absI (M 31 0 0 (11 + 4 * b) - M 31 0 0 (12 + 4 * b)) = M 31 0 0 (11 + 4 * b) - M 31 0 0 (12 + 4 * b) := if_neg (Int32.not_lt.mpr h15)
    iterate 6 refine hS _ _ _ _ ?_
    refine sm_of0 (by omega) (by omega) ?_
    refine hS _ _ _ _ ?_
    refine And.intro (fun h31_1 => ?_) (fun h31_1 => ?_)
    · iterate 4 refine hS _ _ _ _ ?_
      refine qv hQ ?_
      clear h15
      simp_all [worthI]
    refine And.intro (fun h31_2 => ?_) (fun h31_2 => ?_)
    · iterate 4 refine hS _ _ _ _ ?_
      refine qv hQ ?_
      clear h15
      simp_all [worthI]
    refine And.intro (fun h31_3 => ?_) (fun h31_3 => ?_)
    · iterate 6 refine hS _ _ _ _ ?_
      refine qv hQ ?_
      clear h15
      simp_all [worthI]
    refine And.intro (fun h31_4 => ?_) (fun h31_4 => ?_)
    · iterate 7 refine hS _ _ _ _ ?_
      refine sm_of3 (by omega) (by omega) ?_
      iterate 2 refine hS _ _ _ _ ?_
      refine qv hQ ?_
      clear h15
      simp_all [worthI]
    refine And.intro (fun h31_5 => ?_) (fun h31_5 => ?_)
    · iterate 2 refine hS _ _ _ _ ?_
      refine qv hQ ?_
      clear h15
      simp_all [worthI]
    iterate 2 refine hS _ _ _ _ ?_
    refine qv hQ ?_
    clear h15
    simp_all [worthI]
  · have e15 : absI (M 31 0 0 (11 + 4 * b) - M 31 0 0 (12 + 4 * b)) = -(M 31 0 0 (11 + 4 * b) - M 31 0 0 (12 + 4 * b)) := if_pos (nle_lt h15)
    iterate 8 refine hS _ _ _ _ ?_
    refine sm_of0 (by omega) (by omega) ?_
    refine hS _ _ _ _ ?_
    refine And.intro (fun h31_1 => ?_) (fun h31_1 => ?_)
    · iterate 4 refine hS _ _ _ _ ?_
      refine qv hQ ?_
      clear h15
      simp_all [worthI]
    refine And.intro (fun h31_2 => ?_) (fun h31_2 => ?_)
    · iterate 4 refine hS _ _ _ _ ?_
      refine qv hQ ?_
      clear h15
      simp_all [worthI]
    refine And.intro (fun h31_3 => ?_) (fun h31_3 => ?_)
    · iterate 6 refine hS _ _ _ _ ?_
      refine qv hQ ?_
      clear h15
      simp_all [worthI]
    refine And.intro (fun h31_4 => ?_) (fun h31_4 => ?_)
    · iterate 7 refine hS _ _ _ _ ?_
      refine sm_of3 (by omega) (by omega) ?_
      iterate 2 refine hS _ _ _ _ ?_
      refine qv hQ ?_
      clear h15
      simp_all [worthI]
    refine And.intro (fun h31_5 => ?_) (fun h31_5 => ?_)
    · iterate 2 refine hS _ _ _ _ ?_
      refine qv hQ ?_
      clear h15
      simp_all [worthI]
    iterate 2 refine hS _ _ _ _ ?_
    refine qv hQ ?_
    clear h15
    simp_all [worthI]
theorem sm_worksOut {t : Nat} {ky : Nat} (hd : 2 ≤ d) (ht : t < 14) (k1 : ky < 3) (k2 : M 31 0 0 (86 + 2 * t) = nI (1000 * ky + lenF (M 31 0 0) t)) (k3 : okS (ctx (M 31 0 0) t) 3 (lenF (M 31 0 0) t)) (hQ : ∀ M', (∀ k, k ≠ 56 → M' k = M k) → Q (some (.inl (worthT (M 31 0 0) t (M 57 0 0 0) (M 57 0 0 1) (M 57 0 0 2)))) M') : Td PR d 200 [.inr (30, 0, 0), .inl (nI t)] M Q := by
  obtain ⟨e, rfl⟩ : ∃ e, d = e + 1 := ⟨d - 1, by omega⟩
  refine td_X10_worksOut ?_
  intro S hS
  obtain ⟨o1, o2, o3, o4⟩ := k3
  have ix : (86 : Int32) + 2 * nI t = nI (86 + 2 * t) := by
    show nI 86 + nI 2 * nI t = _
    rw [nI_mul, nI_add]
  have el : irem (M 31 0 0 (86 + 2 * t)) 1000 = nI (lenF (M 31 0 0) t) := by rw [k2]; exact nI_rem1000 ky k1 _ (by omega)
  generalize hx : M 57 0 0 0 = x
  generalize hy : M 57 0 0 1 = y
  generalize hz : M 57 0 0 2 = z
  rw [hx, hy, hz] at hQ
  iterate 10 refine hS _ _ _ _ ?_
  rw [ix]
  refine ⟨(by first | assumption | exact vp_in_nI (by simp only [alen]; omega) (by decide)), ?_⟩
  try rw [nI_clamp (by omega)]
  iterate 2 refine hS _ _ _ _ ?_
  refine ⟨by decide, ?_⟩
  rw [el]
  iterate 3 refine hS _ _ _ _ ?_
  refine lp_up (T := fun i => ∀ (o : Option AV) (M' : Mem), (∀ k, k ≠ 56 → M' k = M k) → (∀ j, j < depS (ctx (M 31 0 0) t) i → M' 56 0 0 j = (runS x y z (ctx (M 31 0 0) t) i).2 j) → S 21 [some (.inr (30, 0, 0)), some (.inl (nI t)), some (.inl (nI (depS (ctx (M 31 0 0) t) i))), some (.inl (nI (lenF (M 31 0 0) t))), some (.inl (nI i)), o] [] M') (N := lenF (M 31 0 0) t) ?_ ?_ 0 (Nat.zero_le _) none M (fun _ _ => rfl) (fun j h => absurd h (Nat.not_lt_zero _))
  · intro o M' hF hR
    iterate 3 refine hS _ _ _ _ ?_
    refine And.intro (fun h24 => ?_) (fun h24 => ?_)
    · iterate 4 refine hS _ _ _ _ ?_
      refine ⟨vp_l rfl, ?_⟩
      refine hS _ _ _ _ ?_
      refine qv (hQ M' hF) ?_
      exact (hR 0 (by omega)).symm
    · exact (lp_x rfl h24).elim
  · intro i hi ih o M' hF hR
    have ix2 : (114 : Int32) + 96 * nI t + nI i = nI (114 + 96 * t + i) := by
      show nI 114 + nI 96 * nI t + nI i = _
      rw [nI_mul, nI_add, nI_add]
    have e10 : M' 31 0 0 (114 + 96 * t + i) = ctx (M 31 0 0) t i := by rw [hF 31 (by decide)]; rfl
    have f0 : M' 57 0 0 0 = x := by rw [hF 57 (by decide)]; exact hx
    have f1 : M' 57 0 0 1 = y := by rw [hF 57 (by decide)]; exact hy
    have f2 : M' 57 0 0 2 = z := by rw [hF 57 (by decide)]; exact hz
    have hdl := @depS_le (ctx (M 31 0 0) t) i
    have hr1 : (runS x y z (ctx (M 31 0 0) t) i).1 = depS (ctx (M 31 0 0) t) i := runS_1
    have hds := @depS_s (ctx (M 31 0 0) t) i x y z
    have hrs : (runS x y z (ctx (M 31 0 0) t) (i + 1)) = sgS x y z (ctx (M 31 0 0) t i) (runS x y z (ctx (M 31 0 0) t) i) := rfl
    have fin : ∀ (o' : Option AV) (M2 : Mem) (D : Nat) (tv : Int32), tv = nI D → (∀ k, k ≠ 56 → M2 k = M' k) → D = (sgS x y z (ctx (M 31 0 0) t i) (runS x y z (ctx (M 31 0 0) t) i)).1 → (∀ j, j < D → M2 56 0 0 j = (sgS x y z (ctx (M 31 0 0) t i) (runS x y z (ctx (M 31 0 0) t) i)).2 j) → S 21 [some (.inr (30, 0, 0)), some (.inl (nI t)), some (.inl tv), some (.inl (nI (lenF (M 31 0 0) t))), some (.inl (nI i + 1)), o'] [] M2 := by
      intro o' M2 D tv a0 a1 a2 a3
      subst a0
      have := ih o' M2 (fun k hk => (a1 k hk).trans (hF k hk)) (fun j hj => by rw [hrs]; exact a3 j (by rw [a2, ← hds]; exact hj))
      rw [hds, ← a2, nI_succ] at this
      exact this
    clear ih hds hrs
    have hso := o4 i hi
    clear o4
    generalize ctx (M 31 0 0) t i = v at *
    generalize depS (ctx (M 31 0 0) t) i = D0 at *
    generalize runS x y z (ctx (M 31 0 0) t) i = q at *
    rcases hso with ⟨j, hj, rfl⟩ | ⟨rfl, h1⟩ | ⟨j, j1, j2, rfl, h2⟩
    · have hj3 : j < 10003 := by omega
      rw [sgS_lo hj3, hr1] at fin
      by_cases hlo : j < 10000
      · have hc : nI j < 10000 := nI_lt (b := 10000) hlo (by decide)
        simp only [if_pos hc] at fin
        iterate 3 refine hS _ _ _ _ ?_
        refine And.intro (fun h24 => ?_) (fun h24 => ?_)
        · exact (lp_s rfl hi (by omega) h24).elim
        · iterate 10 refine hS _ _ _ _ ?_
          rw [ix2]
          refine ⟨(by first | assumption | exact vp_in_nI (by simp only [alen]; omega) (by decide)), ?_⟩
          try rw [nI_clamp (by omega)]
          iterate 3 refine hS _ _ _ _ ?_
          refine And.intro (fun h46 => ?_) (fun h46 => ?_)
          · exact absurd (e10 ▸ h46) (nI_pos (by omega))
          · iterate 6 refine hS _ _ _ _ ?_
            refine And.intro (fun h59 => ?_) (fun h59 => ?_)
            · exact absurd (e10 ▸ h59) (nI_ge (b := 10000) hlo (by decide))
            · iterate 3 refine hS _ _ _ _ ?_
              refine ⟨(by first | assumption | exact vp_in_nI (by simp only [alen]; omega) (by decide)), ?_⟩
              try rw [nI_clamp (by omega)]
              iterate 4 refine hS _ _ _ _ ?_
              refine fin _ _ (D0 + 1) _ (nI_succ _).symm ?_ rfl ?_
              · intro k hk; exact mz_k hk
              · intro r hr; simp only [mu, mr, upd, if_pos, and_self]; by_cases z : r = D0
                · rw [if_pos z, if_pos z]; exact e10
                · rw [if_neg z, if_neg z]; exact hR r (by omega)
      · obtain rfl | rfl | rfl : j = 10000 ∨ j = 10001 ∨ j = 10002 := by omega
        · have hc : (if nI 10000 < 10000 then nI 10000 else if nI 10000 = 10000 then x else if nI 10000 = 10001 then y else z) = x := by rfl
          rw [hc] at fin
          iterate 3 refine hS _ _ _ _ ?_
          refine And.intro (fun h24 => ?_) (fun h24 => ?_)
          · exact (lp_s rfl hi (by omega) h24).elim
          · iterate 10 refine hS _ _ _ _ ?_
            rw [ix2]
            refine ⟨(by first | assumption | exact vp_in_nI (by simp only [alen]; omega) (by decide)), ?_⟩
            try rw [nI_clamp (by omega)]
            iterate 3 refine hS _ _ _ _ ?_
            refine And.intro (fun h46 => ?_) (fun h46 => ?_)
            · exact absurd (e10 ▸ h46) (by decide)
            · iterate 6 refine hS _ _ _ _ ?_
              refine And.intro (fun h59 => ?_) (fun h59 => ?_)
              · iterate 6 refine hS _ _ _ _ ?_
                rw [e10]
                refine ⟨vp_l rfl, ?_⟩
                try rw [nI_clamp (by omega)]
                refine hS _ _ _ _ ?_
                refine ⟨(by first | assumption | exact vp_in_nI (by simp only [alen]; omega) (by decide)), ?_⟩
                try rw [nI_clamp (by omega)]
                iterate 4 refine hS _ _ _ _ ?_
                refine fin _ _ (D0 + 1) _ (nI_succ _).symm ?_ rfl ?_
                · intro k hk; exact mz_k hk
                · intro r hr; simp only [mu, mr, upd, if_pos, and_self]; by_cases z : r = D0
                  · rw [if_pos z, if_pos z]; exact f0
                  · rw [if_neg z, if_neg z]; exact hR r (by omega)
              · exact absurd (e10 ▸ (by decide)) h59
        · have hc : (if nI 10001 < 10000 then nI 10001 else if nI 10001 = 10000 then x else if nI 10001 = 10001 then y else z) = y := by rfl
          rw [hc] at fin
          iterate 3 refine hS _ _ _ _ ?_
          refine And.intro (fun h24 => ?_) (fun h24 => ?_)
          · exact (lp_s rfl hi (by omega) h24).elim
          · iterate 10 refine hS _ _ _ _ ?_
            rw [ix2]
            refine ⟨(by first | assumption | exact vp_in_nI (by simp only [alen]; omega) (by decide)), ?_⟩
            try rw [nI_clamp (by omega)]
            iterate 3 refine hS _ _ _ _ ?_
            refine And.intro (fun h46 => ?_) (fun h46 => ?_)
            · exact absurd (e10 ▸ h46) (by decide)
            · iterate 6 refine hS _ _ _ _ ?_
              refine And.intro (fun h59 => ?_) (fun h59 => ?_)
              · iterate 6 refine hS _ _ _ _ ?_
                rw [e10]
                refine ⟨vp_l rfl, ?_⟩
                try rw [nI_clamp (by omega)]
                refine hS _ _ _ _ ?_
                refine ⟨(by first | assumption | exact vp_in_nI (by simp only [alen]; omega) (by decide)), ?_⟩
                try rw [nI_clamp (by omega)]
                iterate 4 refine hS _ _ _ _ ?_
                refine fin _ _ (D0 + 1) _ (nI_succ _).symm ?_ rfl ?_
                · intro k hk; exact mz_k hk
                · intro r hr; simp only [mu, mr, upd, if_pos, and_self]; by_cases z : r = D0
                  · rw [if_pos z, if_pos z]; exact f1
                  · rw [if_neg z, if_neg z]; exact hR r (by omega)
              · exact absurd (e10 ▸ (by decide)) h59
        · have hc : (if nI 10002 < 10000 then nI 10002 else if nI 10002 = 10000 then x else if nI 10002 = 10001 then y else z) = z := by rfl
          rw [hc] at fin
          iterate 3 refine hS _ _ _ _ ?_
          refine And.intro (fun h24 => ?_) (fun h24 => ?_)
          · exact (lp_s rfl hi (by omega) h24).elim
          · iterate 10 refine hS _ _ _ _ ?_
            rw [ix2]
            refine ⟨(by first | assumption | exact vp_in_nI (by simp only [alen]; omega) (by decide)), ?_⟩
            try rw [nI_clamp (by omega)]
            iterate 3 refine hS _ _ _ _ ?_
            refine And.intro (fun h46 => ?_) (fun h46 => ?_)
            · exact absurd (e10 ▸ h46) (by decide)
            · iterate 6 refine hS _ _ _ _ ?_
              refine And.intro (fun h59 => ?_) (fun h59 => ?_)
              · iterate 6 refine hS _ _ _ _ ?_
                rw [e10]
                refine ⟨vp_l rfl, ?_⟩
                try rw [nI_clamp (by omega)]
                refine hS _ _ _ _ ?_
                refine ⟨(by first | assumption | exact vp_in_nI (by simp only [alen]; omega) (by decide)), ?_⟩
                try rw [nI_clamp (by omega)]
                iterate 4 refine hS _ _ _ _ ?_
                refine fin _ _ (D0 + 1) _ (nI_succ _).symm ?_ rfl ?_
                · intro k hk; exact mz_k hk
                · intro r hr; simp only [mu, mr, upd, if_pos, and_self]; by_cases z : r = D0
                  · rw [if_pos z, if_pos z]; exact f2
                  · rw [if_neg z, if_neg z]; exact hR r (by omega)
              · exact absurd (e10 ▸ (by decide)) h59
    · obtain ⟨m, rfl⟩ : ∃ m, D0 = m + 1 := ⟨D0 - 1, by omega⟩
      rw [sgS_n10, hr1] at fin
      have hm := hR m (by omega)
      iterate 3 refine hS _ _ _ _ ?_
      refine And.intro (fun h24 => ?_) (fun h24 => ?_)
      · exact (lp_s rfl hi (by omega) h24).elim
      · iterate 10 refine hS _ _ _ _ ?_
        rw [ix2]
        refine ⟨(by first | assumption | exact vp_in_nI (by simp only [alen]; omega) (by decide)), ?_⟩
        try rw [nI_clamp (by omega)]
        iterate 3 refine hS _ _ _ _ ?_
        refine And.intro (fun h46 => ?_) (fun h46 => ?_)
        · iterate 3 refine hS _ _ _ _ ?_
          refine And.intro (fun h89 => ?_) (fun h89 => ?_)
          · exact absurd e10 h89
          · iterate 11 refine hS _ _ _ _ ?_
            rw [nI_pred]
            refine ⟨(by first | assumption | exact vp_in_nI (by simp only [alen]; omega) (by decide)), ?_⟩
            try rw [nI_clamp (by omega)]
            refine hS _ _ _ _ ?_
            refine And.intro (fun h107 => ?_) (fun h107 => ?_)
            · iterate 2 refine hS _ _ _ _ ?_
              refine ⟨(by first | assumption | exact vp_in_nI (by simp only [alen]; omega) (by decide)), ?_⟩
              try rw [nI_clamp (by omega)]
              iterate 3 refine hS _ _ _ _ ?_
              refine fin _ _ (m + 1) _ rfl ?_ rfl ?_
              · intro k hk; exact mz_k hk
              · intro r hr; simp only [mu, mr, upd, if_pos, and_self, Nat.add_sub_cancel]; by_cases z : r = m
                · rw [if_pos z, if_pos z, ← hm]; simp_all
                · rw [if_neg z, if_neg z]; exact hR r (by omega)
            · iterate 3 refine hS _ _ _ _ ?_
              refine ⟨(by first | assumption | exact vp_in_nI (by simp only [alen]; omega) (by decide)), ?_⟩
              try rw [nI_clamp (by omega)]
              iterate 3 refine hS _ _ _ _ ?_
              refine fin _ _ (m + 1) _ rfl ?_ rfl ?_
              · intro k hk; exact mz_k hk
              · intro r hr; simp only [mu, mr, upd, if_pos, and_self, Nat.add_sub_cancel]; by_cases z : r = m
                · rw [if_pos z, if_pos z, ← hm]; simp_all
                · rw [if_neg z, if_neg z]; exact hR r (by omega)
        · exact absurd (e10 ▸ (by decide)) h46
    · obtain ⟨m, rfl⟩ : ∃ m, D0 = m + 2 := ⟨D0 - 2, by omega⟩
      rw [sgS_op j1 j2, hr1] at fin
      have hm := hR m (by omega)
      have hm1 := hR (m + 1) (by omega)
      have hng := neg_nI j j2 j1
      iterate 3 refine hS _ _ _ _ ?_
      refine And.intro (fun h24 => ?_) (fun h24 => ?_)
      · exact (lp_s rfl hi (by omega) h24).elim
      · iterate 10 refine hS _ _ _ _ ?_
        rw [ix2]
        refine ⟨(by first | assumption | exact vp_in_nI (by simp only [alen]; omega) (by decide)), ?_⟩
        try rw [nI_clamp (by omega)]
        iterate 3 refine hS _ _ _ _ ?_
        refine And.intro (fun h46 => ?_) (fun h46 => ?_)
        · iterate 3 refine hS _ _ _ _ ?_
          refine And.intro (fun h89 => ?_) (fun h89 => ?_)
          · iterate 2 refine hS _ _ _ _ ?_
            rw [nI_m1]
            iterate 11 refine hS _ _ _ _ ?_
            rw [nI_pred]
            refine ⟨(by first | assumption | exact vp_in_nI (by simp only [alen]; omega) (by decide)), ?_⟩
            try rw [nI_clamp (by omega)]
            iterate 4 refine hS _ _ _ _ ?_
            refine ⟨(by first | assumption | exact vp_in_nI (by simp only [alen]; omega) (by decide)), ?_⟩
            try rw [nI_clamp (by omega)]
            refine hS _ _ _ _ ?_
            rw [hm, hm1, e10]
            refine sm_two (by omega) j1 j2 ?_
            refine hS _ _ _ _ ?_
            refine ⟨(by first | assumption | exact vp_in_nI (by simp only [alen]; omega) (by decide)), ?_⟩
            try rw [nI_clamp (by omega)]
            iterate 2 refine hS _ _ _ _ ?_
            refine fin _ _ (m + 1) _ rfl ?_ rfl ?_
            · intro k hk; exact mz_k hk
            · intro r hr; simp only [mu, mr, upd, if_pos, and_self]; by_cases z : r = m
              · rw [if_pos z, if_pos (by omega)]; rfl
              · rw [if_neg z, if_neg (by omega)]; exact hR r (by omega)
          · exact absurd (e10.symm.trans h89) hng.2.1
        · exact absurd (e10 ▸ nle_lt hng.1) h46
theorem sm_thereIn {town : Int32} (hd : 2 ≤ d) (hC : CN (M 31 0 0)) (hQ : Q (some (.inl (thereF (M 31 0 0) town (cP (M 31 0 0))))) M) : Td PR d 147 [.inr (30, 0, 0), .inl town] M Q := by
  obtain ⟨e, rfl⟩ : ∃ e, d = e + 1 := ⟨d - 1, by omega⟩
  refine td_X10_thereIn ?_
  intro S hS
  have hp := hC.2.2.2.1
  have h4 := hC.2.2.1
  iterate 4 refine hS _ _ _ _ ?_
  refine lp_up (T := fun i => S 4 [some (.inr (30, 0, 0)), some (.inl town), some (.inl (thereF (M 31 0 0) town i)), some (.inl (nI i))] [] M) (N := cP (M 31 0 0)) ?_ ?_ 0 (Nat.zero_le _)
  · iterate 5 refine hS _ _ _ _ ?_
    refine ⟨vp_l rfl, ?_⟩
    refine hS _ _ _ _ ?_
    refine And.intro (fun h11 => ?_) (fun h11 => ?_)
    · iterate 2 refine hS _ _ _ _ ?_
      exact hQ
    · exact (lp_x h4 h11).elim
  · intro i hi ih
    rw [nI_succ] at ih
    iterate 5 refine hS _ _ _ _ ?_
    refine ⟨vp_l rfl, ?_⟩
    refine hS _ _ _ _ ?_
    refine And.intro (fun h11 => ?_) (fun h11 => ?_)
    · exact (lp_s h4 hi (by omega) h11).elim
    · iterate 5 refine hS _ _ _ _ ?_
      refine sm_by0 (by omega) (by omega) ?_
      iterate 2 refine hS _ _ _ _ ?_
      refine And.intro (fun h22 => ?_) (fun h22 => ?_)
      · iterate 5 refine hS _ _ _ _ ?_
        refine slv ih ?_
        simp_all [thereF]
      · iterate 4 refine hS _ _ _ _ ?_
        refine sm_by3 (by omega) (by omega) ?_
        refine hS _ _ _ _ ?_
        refine And.intro (fun h31 => ?_) (fun h31 => ?_)
        · iterate 5 refine hS _ _ _ _ ?_
          refine slv ih ?_
          simp_all [thereF]
        · iterate 6 refine hS _ _ _ _ ?_
          refine slv ih ?_
          simp_all [thereF]
end W6
