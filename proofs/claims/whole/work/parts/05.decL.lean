-- 05.decL: the law
theorem okl_0 : okT 11 cL_law 0 ((T_L_law.drop 0).take 12) = true := by decide +kernel
theorem okl_12 : okT 11 cL_law 12 ((T_L_law.drop 12).take 12) = true := by decide +kernel
theorem okl_24 : okT 11 cL_law 24 ((T_L_law.drop 24).take 12) = true := by decide +kernel
theorem okl_36 : okT 11 cL_law 36 ((T_L_law.drop 36).take 12) = true := by decide +kernel
theorem okl_48 : okT 11 cL_law 48 ((T_L_law.drop 48).take 12) = true := by decide +kernel
theorem okl_60 : okT 11 cL_law 60 ((T_L_law.drop 60).take 12) = true := by decide +kernel
theorem okl_72 : okT 11 cL_law 72 ((T_L_law.drop 72).take 12) = true := by decide +kernel
theorem okl_84 : okT 11 cL_law 84 ((T_L_law.drop 84).take 12) = true := by decide +kernel
theorem okl_96 : okT 11 cL_law 96 ((T_L_law.drop 96).take 12) = true := by decide +kernel
theorem okT_app {o : Nat} {b : ByteArray} : ∀ (T U : Tab) (i : Nat), okT o b i T = true → okT o b (i + T.length) U = true → okT o b i (T ++ U) = true := by
  intro T
  induction T with
  | nil => intro U i _ h; exact h
  | cons r q ih =>
    intro U i h1 h2
    simp only [okT, Bool.and_eq_true, List.cons_append] at h1 ⊢
    refine ⟨h1.1, ih U (i + 1) h1.2 ?_⟩
    rwa [show i + 1 + q.length = i + (r :: q).length by simp; omega]
theorem okt_96 : okT 11 cL_law 96 (T_L_law.drop 96) = true := okl_96
theorem okt_84 : okT 11 cL_law 84 (T_L_law.drop 84) = true := okT_app ((T_L_law.drop 84).take 12) (T_L_law.drop 96) 84 okl_84 okt_96
theorem okt_72 : okT 11 cL_law 72 (T_L_law.drop 72) = true := okT_app ((T_L_law.drop 72).take 12) (T_L_law.drop 84) 72 okl_72 okt_84
theorem okt_60 : okT 11 cL_law 60 (T_L_law.drop 60) = true := okT_app ((T_L_law.drop 60).take 12) (T_L_law.drop 72) 60 okl_60 okt_72
theorem okt_48 : okT 11 cL_law 48 (T_L_law.drop 48) = true := okT_app ((T_L_law.drop 48).take 12) (T_L_law.drop 60) 48 okl_48 okt_60
theorem okt_36 : okT 11 cL_law 36 (T_L_law.drop 36) = true := okT_app ((T_L_law.drop 36).take 12) (T_L_law.drop 48) 36 okl_36 okt_48
theorem okt_24 : okT 11 cL_law 24 (T_L_law.drop 24) = true := okT_app ((T_L_law.drop 24).take 12) (T_L_law.drop 36) 24 okl_24 okt_36
theorem okt_12 : okT 11 cL_law 12 (T_L_law.drop 12) = true := okT_app ((T_L_law.drop 12).take 12) (T_L_law.drop 24) 12 okl_12 okt_24
theorem okt_0 : okT 11 cL_law 0 (T_L_law.drop 0) = true := okT_app ((T_L_law.drop 0).take 12) (T_L_law.drop 12) 0 okl_0 okt_12
theorem ok_law : okM r_L_law = true := okt_0
theorem okM_ok {m : Nat} (h : m < 230) : okM (PR m) = true := by
  by_cases h225 : 225 ≤ m
  · have e := ok_225 (m - 225) (by omega)
    rwa [show 225 + (m - 225) = m by omega] at e
  by_cases h210 : 210 ≤ m
  · have e := ok_210 (m - 210) (by omega)
    rwa [show 210 + (m - 210) = m by omega] at e
  by_cases h195 : 195 ≤ m
  · have e := ok_195 (m - 195) (by omega)
    rwa [show 195 + (m - 195) = m by omega] at e
  by_cases h180 : 180 ≤ m
  · have e := ok_180 (m - 180) (by omega)
    rwa [show 180 + (m - 180) = m by omega] at e
  by_cases h165 : 165 ≤ m
  · have e := ok_165 (m - 165) (by omega)
    rwa [show 165 + (m - 165) = m by omega] at e
  by_cases h150 : 150 ≤ m
  · have e := ok_150 (m - 150) (by omega)
    rwa [show 150 + (m - 150) = m by omega] at e
  by_cases h135 : 135 ≤ m
  · have e := ok_135 (m - 135) (by omega)
    rwa [show 135 + (m - 135) = m by omega] at e
  by_cases h120 : 120 ≤ m
  · have e := ok_120 (m - 120) (by omega)
    rwa [show 120 + (m - 120) = m by omega] at e
  by_cases h105 : 105 ≤ m
  · have e := ok_105 (m - 105) (by omega)
    rwa [show 105 + (m - 105) = m by omega] at e
  by_cases h90 : 90 ≤ m
  · have e := ok_90 (m - 90) (by omega)
    rwa [show 90 + (m - 90) = m by omega] at e
  by_cases h75 : 75 ≤ m
  · have e := ok_75 (m - 75) (by omega)
    rwa [show 75 + (m - 75) = m by omega] at e
  by_cases h60 : 60 ≤ m
  · have e := ok_60 (m - 60) (by omega)
    rwa [show 60 + (m - 60) = m by omega] at e
  by_cases h45 : 45 ≤ m
  · have e := ok_45 (m - 45) (by omega)
    rwa [show 45 + (m - 45) = m by omega] at e
  by_cases h30 : 30 ≤ m
  · have e := ok_30 (m - 30) (by omega)
    rwa [show 30 + (m - 30) = m by omega] at e
  by_cases h15 : 15 ≤ m
  · have e := ok_15 (m - 15) (by omega)
    rwa [show 15 + (m - 15) = m by omega] at e
  by_cases h0 : 0 ≤ m
  · have e := ok_0 (m - 0) (by omega)
    rwa [show 0 + (m - 0) = m by omega] at e
  exact (h0 (Nat.zero_le m)).elim
