-- 59.pure30: slots
theorem irem_m1 (x : Int32) : irem x (-1) = 0 := by
  unfold irem
  have e : x / -1 = -x := by
    have e1 : (-1 : Int32).toInt = -1 := by decide
    rw [← Int32.toInt_inj, Int32.toInt_div, e1, Int.tdiv_neg, Int.tdiv_one, Int32.toInt_neg]
  rw [e]
  have e2 : -x * -1 = x := by
    rw [Int32.neg_mul_neg, Int32.mul_one]
  rw [e2]
  exact Int32.sub_self x
noncomputable def askV (M : Mem) (s k : Int32) : Int32 := iteC (isBd 5 s ∧ isBd 6 k) (if M 61 0 0 s.toNatClampNeg = 0 then -1000000011 else iteC (M 61 0 0 s.toNatClampNeg = 1 ∧ undP (M 62 0 0 s.toNatClampNeg) k) (M 63 0 0 s.toNatClampNeg) (-1000000012)) (-1000000001)
noncomputable def itemV (M : Mem) (s p : Int32) : Int32 := iteC (isBd 5 s) (if M 61 0 0 s.toNatClampNeg = 0 then -1000000011 else if ¬ M 61 0 0 s.toNatClampNeg = 2 then -1000000012 else iteC (isBd (M 62 0 0 s.toNatClampNeg).toNatClampNeg p) (if M 64 0 0 (24 * s.toNatClampNeg + p.toNatClampNeg) = -1000000005 then -1000000012 else M 64 0 0 (24 * s.toNatClampNeg + p.toNatClampNeg)) (-1000000013)) (-1000000001)
noncomputable def restV (M : Mem) (s n : Int32) : Int32 := iteC (isBd 5 s) (if M 61 0 0 s.toNatClampNeg = 0 then -1000000011 else if ¬ M 61 0 0 s.toNatClampNeg = 3 then -1000000012 else if n = 0 then -1000000002 else irem (M 62 0 0 s.toNatClampNeg) n) (-1000000001)
theorem c_ask {M : Mem} {Q : PQ} {d : Nat} {s k : Int32} (hd : 500 ≤ d) (hI : INV M) (hQ : ∀ M', FrS M M' → Q (some (.inl (askV M s k))) M') : Td PR d 103 [.inr (0, 0, 0), .inl s, .inl k] M Q := by
  have hL := hI.ll
  have hC := hI.cn
  have hb10 := hL.b10
  have hp9 := hL.p9
  have ht14 := hL.t14
  generalize hV : askV M s k = W at hQ
  obtain ⟨e, rfl⟩ : ∃ e, d = e + 1 := ⟨d - 1, by omega⟩
  refine td_X9_ask ?_
  intro S hS
  iterate 2 refine hS _ _ _ _ ?_
  refine sp_isSlot (by omega) ?_
  refine hS _ _ _ _ ?_
  refine And.intro (fun h4 => ?_) (fun h4 => ?_)
  · replace h4 := bI_f h4
    iterate 2 refine hS _ _ _ _ ?_
    rw [askV, iteC_f (fun z => h4 z.1)] at hV
    exact qv (hQ _ FrS.rf) hV.symm
  · replace h4 := bI_t h4
    iterate 2 refine hS _ _ _ _ ?_
    refine sp_isKind (by omega) ?_
    refine hS _ _ _ _ ?_
    refine And.intro (fun h11 => ?_) (fun h11 => ?_)
    · replace h11 := bI_t h11
      rw [askV, iteC_t ⟨h4, h11⟩] at hV
      obtain ⟨j, hj, rfl⟩ := h4
      rw [nI_clamp (by omega)] at hV
      obtain ⟨r1, r2, r3, r4, r5⟩ := hI.2.2.2.1 j hj
      rw [r1] at hV
      iterate 4 refine hS _ _ _ _ ?_
      refine ⟨(by first | assumption | exact vp_in_nI (by simp only [alen]; omega) (by decide)), ?_⟩
      try rw [nI_clamp (by omega)]
      iterate 4 refine hS _ _ _ _ ?_
      refine And.intro (fun h28 => ?_) (fun h28 => ?_)
      · rw [if_neg h28] at hV
        iterate 4 refine hS _ _ _ _ ?_
        refine And.intro (fun h39 => ?_) (fun h39 => ?_)
        · rw [iteC_f (fun z => h39 z.1)] at hV
          iterate 2 refine hS _ _ _ _ ?_
          exact qv (hQ _ FrS.rf) hV.symm
        · obtain ⟨x1, x2⟩ := r3 h39
          rw [x1, x2] at hV
          iterate 4 refine hS _ _ _ _ ?_
          refine sp_isOf (by omega) ?_
          refine hS _ _ _ _ ?_
          refine And.intro (fun h50 => ?_) (fun h50 => ?_)
          · replace h50 := bI_t h50
            rw [iteC_t ⟨h39, h50⟩] at hV
            iterate 3 refine hS _ _ _ _ ?_
            refine sp_worth (by omega) ?_
            refine hS _ _ _ _ ?_
            exact qv (hQ _ FrS.rf) hV.symm
          · replace h50 := bI_f h50
            rw [iteC_f (fun z => h50 z.2)] at hV
            iterate 2 refine hS _ _ _ _ ?_
            exact qv (hQ _ FrS.rf) hV.symm
      · rw [if_pos h28] at hV
        iterate 2 refine hS _ _ _ _ ?_
        exact qv (hQ _ FrS.rf) hV.symm
    · replace h11 := bI_f h11
      iterate 2 refine hS _ _ _ _ ?_
      rw [askV, iteC_f (fun z => h11 z.2)] at hV
      exact qv (hQ _ FrS.rf) hV.symm
theorem m_ask {M : Mem} {Q : PQ} {d : Nat} {s k : Int32} (hd : 500 ≤ d) (hI : INV M) (hQ : ∀ M', FrS M M' → Q (some (.inl (askV M s k))) M') : Td PR d 209 [.inr (30, 0, 0), .inl s, .inl k] M Q := by
  have hL := hI.ll
  have hC := hI.cn
  have hb10 := hL.b10
  have hp9 := hL.p9
  have ht14 := hL.t14
  generalize hV : askV M s k = W at hQ
  obtain ⟨e, rfl⟩ : ∃ e, d = e + 1 := ⟨d - 1, by omega⟩
  refine td_X10_ask ?_
  intro S hS
  iterate 2 refine hS _ _ _ _ ?_
  refine sm_isSlot (by omega) ?_
  refine hS _ _ _ _ ?_
  refine And.intro (fun h4 => ?_) (fun h4 => ?_)
  · replace h4 := bI_f h4
    iterate 2 refine hS _ _ _ _ ?_
    rw [askV, iteC_f (fun z => h4 z.1)] at hV
    exact qv (hQ _ FrS.rf) hV.symm
  · replace h4 := bI_t h4
    iterate 4 refine hS _ _ _ _ ?_
    refine sm_in (by omega) ?_
    refine hS _ _ _ _ ?_
    refine And.intro (fun h13 => ?_) (fun h13 => ?_)
    · replace h13 := bI_t h13
      rw [askV, iteC_t ⟨h4, (in_bd1 (n := 5) (by omega)).mp h13⟩] at hV
      obtain ⟨j, hj, rfl⟩ := h4
      rw [nI_clamp (by omega)] at hV
      iterate 4 refine hS _ _ _ _ ?_
      refine ⟨(by first | assumption | exact vp_in_nI (by simp only [alen]; omega) (by decide)), ?_⟩
      try rw [nI_clamp (by omega)]
      refine hS _ _ _ _ ?_
      refine And.intro (fun h25 => ?_) (fun h25 => ?_)
      · rw [if_neg h25] at hV
        iterate 4 refine hS _ _ _ _ ?_
        refine ⟨(by first | assumption | exact vp_in_nI (by simp only [alen]; omega) (by decide)), ?_⟩
        try rw [nI_clamp (by omega)]
        iterate 2 refine hS _ _ _ _ ?_
        refine And.intro (fun h38 => ?_) (fun h38 => ?_)
        · rw [iteC_f (fun z => h38 z.1)] at hV
          iterate 2 refine hS _ _ _ _ ?_
          exact qv (hQ _ FrS.rf) hV.symm
        · iterate 4 refine hS _ _ _ _ ?_
          refine ⟨(by first | assumption | exact vp_in_nI (by simp only [alen]; omega) (by decide)), ?_⟩
          try rw [nI_clamp (by omega)]
          iterate 2 refine hS _ _ _ _ ?_
          refine sm_isUnder (by omega) ?_
          refine hS _ _ _ _ ?_
          refine And.intro (fun h51 => ?_) (fun h51 => ?_)
          · replace h51 := bI_f h51
            rw [iteC_f (fun z => h51 z.2)] at hV
            iterate 2 refine hS _ _ _ _ ?_
            exact qv (hQ _ FrS.rf) hV.symm
          · replace h51 := bI_t h51
            rw [iteC_t ⟨h38, h51⟩] at hV
            iterate 4 refine hS _ _ _ _ ?_
            refine ⟨(by first | assumption | exact vp_in_nI (by simp only [alen]; omega) (by decide)), ?_⟩
            try rw [nI_clamp (by omega)]
            iterate 2 refine hS _ _ _ _ ?_
            exact qv (hQ _ FrS.rf) hV.symm
      · rw [if_pos h25] at hV
        iterate 2 refine hS _ _ _ _ ?_
        exact qv (hQ _ FrS.rf) hV.symm
    · replace h13 := bI_f h13
      iterate 2 refine hS _ _ _ _ ?_
      rw [askV, iteC_f (fun z => h13 ((in_bd1 (n := 5) (by omega)).mpr z.2))] at hV
      exact qv (hQ _ FrS.rf) hV.symm
theorem op_ask {s k : Int32} : OpOK 103 209 [.inl s, .inl k] := op_q (fun M => askV M s k) (fun M Q d hd hI hQ => c_ask hd hI hQ) (fun M Q d hd hI hQ => m_ask hd hI hQ) (fun M M' h => by simp only [askV, h.q (k := 61) (by omega), h.q (k := 62) (by omega), h.q (k := 63) (by omega), h.q (k := 64) (by omega)])
theorem c_item {M : Mem} {Q : PQ} {d : Nat} {s p : Int32} (hd : 500 ≤ d) (hI : INV M) (hQ : ∀ M', FrS M M' → Q (some (.inl (itemV M s p))) M') : Td PR d 104 [.inr (0, 0, 0), .inl s, .inl p] M Q := by
  have hL := hI.ll
  have hC := hI.cn
  have hb10 := hL.b10
  have hp9 := hL.p9
  have ht14 := hL.t14
  generalize hV : itemV M s p = W at hQ
  obtain ⟨e, rfl⟩ : ∃ e, d = e + 1 := ⟨d - 1, by omega⟩
  refine td_X9_item ?_
  intro S hS
  iterate 2 refine hS _ _ _ _ ?_
  refine sp_isSlot (by omega) ?_
  refine hS _ _ _ _ ?_
  refine And.intro (fun h4 => ?_) (fun h4 => ?_)
  · replace h4 := bI_t h4
    rw [itemV, iteC_t h4] at hV
    obtain ⟨j, hj, rfl⟩ := h4
    rw [nI_clamp (by omega)] at hV
    obtain ⟨r1, r2, r3, r4, r5⟩ := hI.2.2.2.1 j hj
    rw [r1] at hV
    iterate 4 refine hS _ _ _ _ ?_
    refine ⟨(by first | assumption | exact vp_in_nI (by simp only [alen]; omega) (by decide)), ?_⟩
    try rw [nI_clamp (by omega)]
    iterate 4 refine hS _ _ _ _ ?_
    refine And.intro (fun h21 => ?_) (fun h21 => ?_)
    · rw [if_neg h21] at hV
      iterate 4 refine hS _ _ _ _ ?_
      refine And.intro (fun h32 => ?_) (fun h32 => ?_)
      · rw [if_neg (fun z => z h32)] at hV
        obtain ⟨x1, ⟨n, hn, x2⟩, x3⟩ := r4 h32
        rw [x1, x2, nI_clamp (by omega)] at hV
        iterate 4 refine hS _ _ _ _ ?_
        refine sp_has (by omega) x2 (by omega) ?_
        refine hS _ _ _ _ ?_
        refine And.intro (fun h46 => ?_) (fun h46 => ?_)
        · replace h46 := bI_t h46
          rw [iteC_t h46] at hV
          obtain ⟨i, hi, rfl⟩ := h46
          rw [nI_clamp (by omega), x3 i (by omega)] at hV
          iterate 4 refine hS _ _ _ _ ?_
          refine sp_isNumber (by omega) x2 (by omega) hi ?_
          refine hS _ _ _ _ ?_
          refine And.intro (fun h61 => ?_) (fun h61 => ?_)
          · replace h61 := bI_f h61
            rw [if_pos (Classical.byContradiction h61)] at hV
            iterate 2 refine hS _ _ _ _ ?_
            exact qv (hQ _ FrS.rf) hV.symm
          · replace h61 := bI_t h61
            rw [if_neg h61] at hV
            iterate 5 refine hS _ _ _ _ ?_
            refine ⟨(by first | assumption | exact vp_in_nI (by simp only [alen]; omega) (by decide)), ?_⟩
            try rw [nI_clamp (by omega)]
            iterate 2 refine hS _ _ _ _ ?_
            exact qv (hQ _ FrS.rf) hV.symm
        · replace h46 := bI_f h46
          rw [iteC_f h46] at hV
          iterate 2 refine hS _ _ _ _ ?_
          exact qv (hQ _ FrS.rf) hV.symm
      · rw [if_pos h32] at hV
        iterate 2 refine hS _ _ _ _ ?_
        exact qv (hQ _ FrS.rf) hV.symm
    · rw [if_pos h21] at hV
      iterate 2 refine hS _ _ _ _ ?_
      exact qv (hQ _ FrS.rf) hV.symm
  · replace h4 := bI_f h4
    iterate 2 refine hS _ _ _ _ ?_
    rw [itemV, iteC_f h4] at hV
    exact qv (hQ _ FrS.rf) hV.symm
theorem m_item {M : Mem} {Q : PQ} {d : Nat} {s p : Int32} (hd : 500 ≤ d) (hI : INV M) (hQ : ∀ M', FrS M M' → Q (some (.inl (itemV M s p))) M') : Td PR d 210 [.inr (30, 0, 0), .inl s, .inl p] M Q := by
  have hL := hI.ll
  have hC := hI.cn
  have hb10 := hL.b10
  have hp9 := hL.p9
  have ht14 := hL.t14
  generalize hV : itemV M s p = W at hQ
  obtain ⟨e, rfl⟩ : ∃ e, d = e + 1 := ⟨d - 1, by omega⟩
  refine td_X10_item ?_
  intro S hS
  iterate 2 refine hS _ _ _ _ ?_
  refine sm_isSlot (by omega) ?_
  refine hS _ _ _ _ ?_
  refine And.intro (fun h4 => ?_) (fun h4 => ?_)
  · replace h4 := bI_t h4
    rw [itemV, iteC_t h4] at hV
    obtain ⟨j, hj, rfl⟩ := h4
    rw [nI_clamp (by omega)] at hV
    obtain ⟨r1, r2, r3, r4, r5⟩ := hI.2.2.2.1 j hj
    iterate 4 refine hS _ _ _ _ ?_
    refine ⟨(by first | assumption | exact vp_in_nI (by simp only [alen]; omega) (by decide)), ?_⟩
    try rw [nI_clamp (by omega)]
    refine hS _ _ _ _ ?_
    refine And.intro (fun h16 => ?_) (fun h16 => ?_)
    · rw [if_neg h16] at hV
      iterate 4 refine hS _ _ _ _ ?_
      refine ⟨(by first | assumption | exact vp_in_nI (by simp only [alen]; omega) (by decide)), ?_⟩
      try rw [nI_clamp (by omega)]
      iterate 2 refine hS _ _ _ _ ?_
      refine And.intro (fun h29 => ?_) (fun h29 => ?_)
      · rw [if_neg (fun z => z h29)] at hV
        obtain ⟨x1, ⟨n, hn, x2⟩, x3⟩ := r4 (by rw [← r1]; exact h29)
        rw [x1, x2, nI_clamp (by omega)] at hV
        iterate 6 refine hS _ _ _ _ ?_
        refine ⟨(by first | assumption | exact vp_in_nI (by simp only [alen]; omega) (by decide)), ?_⟩
        rw [nI_clamp (by omega), x1, x2]
        iterate 3 refine hS _ _ _ _ ?_
        refine sm_in (by omega) ?_
        refine hS _ _ _ _ ?_
        refine And.intro (fun h48 => ?_) (fun h48 => ?_)
        · replace h48 := bI_t h48
          replace h48 := (in_bd (n := n) (by omega)).mp h48
          rw [iteC_t h48] at hV
          obtain ⟨i, hi, rfl⟩ := h48
          rw [nI_clamp (by omega)] at hV
          have ix : (24 : Int32) * nI j + nI i = nI (24 * j + i) := by
            show nI 24 * nI j + nI i = _
            rw [nI_mul, nI_add]
          iterate 8 refine hS _ _ _ _ ?_
          rw [ix]
          refine ⟨(by first | assumption | exact vp_in_nI (by simp only [alen]; omega) (by decide)), ?_⟩
          try rw [nI_clamp (by omega)]
          iterate 4 refine hS _ _ _ _ ?_
          refine And.intro (fun h70 => ?_) (fun h70 => ?_)
          · rw [if_neg h70] at hV
            iterate 2 refine hS _ _ _ _ ?_
            exact qv (hQ _ FrS.rf) hV.symm
          · rw [if_pos h70] at hV
            iterate 3 refine hS _ _ _ _ ?_
            exact qv (hQ _ FrS.rf) hV.symm
        · replace h48 := bI_f h48
          rw [iteC_f (fun z => h48 ((in_bd (by omega)).mpr z))] at hV
          iterate 2 refine hS _ _ _ _ ?_
          exact qv (hQ _ FrS.rf) hV.symm
      · rw [if_pos h29] at hV
        iterate 2 refine hS _ _ _ _ ?_
        exact qv (hQ _ FrS.rf) hV.symm
    · rw [if_pos h16] at hV
      iterate 2 refine hS _ _ _ _ ?_
      exact qv (hQ _ FrS.rf) hV.symm
  · replace h4 := bI_f h4
    iterate 2 refine hS _ _ _ _ ?_
    rw [itemV, iteC_f h4] at hV
    exact qv (hQ _ FrS.rf) hV.symm
theorem op_item {s p : Int32} : OpOK 104 210 [.inl s, .inl p] := op_q (fun M => itemV M s p) (fun M Q d hd hI hQ => c_item hd hI hQ) (fun M Q d hd hI hQ => m_item hd hI hQ) (fun M M' h => by simp only [itemV, h.q (k := 61) (by omega), h.q (k := 62) (by omega), h.q (k := 63) (by omega), h.q (k := 64) (by omega)])
theorem c_rest {M : Mem} {Q : PQ} {d : Nat} {s n : Int32} (hd : 500 ≤ d) (hI : INV M) (hQ : ∀ M', FrS M M' → Q (some (.inl (restV M s n))) M') : Td PR d 105 [.inr (0, 0, 0), .inl s, .inl n] M Q := by
  have hL := hI.ll
  have hC := hI.cn
  have hb10 := hL.b10
  have hp9 := hL.p9
  have ht14 := hL.t14
  generalize hV : restV M s n = W at hQ
  obtain ⟨e, rfl⟩ : ∃ e, d = e + 1 := ⟨d - 1, by omega⟩
  refine td_X9_rest ?_
  intro S hS
  iterate 2 refine hS _ _ _ _ ?_
  refine sp_isSlot (by omega) ?_
  refine hS _ _ _ _ ?_
  refine And.intro (fun h4 => ?_) (fun h4 => ?_)
  · replace h4 := bI_t h4
    rw [restV, iteC_t h4] at hV
    obtain ⟨j, hj, rfl⟩ := h4
    rw [nI_clamp (by omega)] at hV
    obtain ⟨r1, r2, r3, r4, r5⟩ := hI.2.2.2.1 j hj
    rw [r1] at hV
    iterate 4 refine hS _ _ _ _ ?_
    refine ⟨(by first | assumption | exact vp_in_nI (by simp only [alen]; omega) (by decide)), ?_⟩
    try rw [nI_clamp (by omega)]
    iterate 4 refine hS _ _ _ _ ?_
    refine And.intro (fun h21 => ?_) (fun h21 => ?_)
    · rw [if_neg h21] at hV
      iterate 4 refine hS _ _ _ _ ?_
      refine And.intro (fun h32 => ?_) (fun h32 => ?_)
      · rw [if_neg (fun z => z h32), r5 h32] at hV
        iterate 2 refine hS _ _ _ _ ?_
        refine And.intro (fun h39 => ?_) (fun h39 => ?_)
        · rw [if_neg h39] at hV
          iterate 4 refine hS _ _ _ _ ?_
          refine ⟨h39, ?_⟩
          refine hS _ _ _ _ ?_
          exact qv (hQ _ FrS.rf) hV.symm
        · rw [if_pos h39] at hV
          iterate 3 refine hS _ _ _ _ ?_
          exact qv (hQ _ FrS.rf) hV.symm
      · rw [if_pos h32] at hV
        iterate 2 refine hS _ _ _ _ ?_
        exact qv (hQ _ FrS.rf) hV.symm
    · rw [if_pos h21] at hV
      iterate 2 refine hS _ _ _ _ ?_
      exact qv (hQ _ FrS.rf) hV.symm
  · replace h4 := bI_f h4
    iterate 2 refine hS _ _ _ _ ?_
    rw [restV, iteC_f h4] at hV
    exact qv (hQ _ FrS.rf) hV.symm
theorem m_rest {M : Mem} {Q : PQ} {d : Nat} {s n : Int32} (hd : 500 ≤ d) (hI : INV M) (hQ : ∀ M', FrS M M' → Q (some (.inl (restV M s n))) M') : Td PR d 211 [.inr (30, 0, 0), .inl s, .inl n] M Q := by
  have hL := hI.ll
  have hC := hI.cn
  have hb10 := hL.b10
  have hp9 := hL.p9
  have ht14 := hL.t14
  generalize hV : restV M s n = W at hQ
  obtain ⟨e, rfl⟩ : ∃ e, d = e + 1 := ⟨d - 1, by omega⟩
  refine td_X10_rest ?_
  intro S hS
  iterate 2 refine hS _ _ _ _ ?_
  refine sm_isSlot (by omega) ?_
  refine hS _ _ _ _ ?_
  refine And.intro (fun h4 => ?_) (fun h4 => ?_)
  · replace h4 := bI_t h4
    rw [restV, iteC_t h4] at hV
    obtain ⟨j, hj, rfl⟩ := h4
    rw [nI_clamp (by omega)] at hV
    iterate 4 refine hS _ _ _ _ ?_
    refine ⟨(by first | assumption | exact vp_in_nI (by simp only [alen]; omega) (by decide)), ?_⟩
    try rw [nI_clamp (by omega)]
    refine hS _ _ _ _ ?_
    refine And.intro (fun h16 => ?_) (fun h16 => ?_)
    · rw [if_neg h16] at hV
      iterate 4 refine hS _ _ _ _ ?_
      refine ⟨(by first | assumption | exact vp_in_nI (by simp only [alen]; omega) (by decide)), ?_⟩
      try rw [nI_clamp (by omega)]
      iterate 2 refine hS _ _ _ _ ?_
      refine And.intro (fun h29 => ?_) (fun h29 => ?_)
      · rw [if_neg (fun z => z h29)] at hV
        iterate 2 refine hS _ _ _ _ ?_
        refine And.intro (fun h36 => ?_) (fun h36 => ?_)
        · rw [if_neg h36] at hV
          iterate 3 refine hS _ _ _ _ ?_
          refine And.intro (fun h47 => ?_) (fun h47 => ?_)
          · iterate 4 refine hS _ _ _ _ ?_
            refine ⟨(by first | assumption | exact vp_in_nI (by simp only [alen]; omega) (by decide)), ?_⟩
            try rw [nI_clamp (by omega)]
            iterate 2 refine hS _ _ _ _ ?_
            refine ⟨h36, ?_⟩
            refine hS _ _ _ _ ?_
            exact qv (hQ _ FrS.rf) hV.symm
          · have h47' : n = -1 := h47
            rw [h47', irem_m1] at hV
            iterate 3 refine hS _ _ _ _ ?_
            exact qv (hQ _ FrS.rf) hV.symm
        · rw [if_pos h36] at hV
          iterate 3 refine hS _ _ _ _ ?_
          exact qv (hQ _ FrS.rf) hV.symm
      · rw [if_pos h29] at hV
        iterate 2 refine hS _ _ _ _ ?_
        exact qv (hQ _ FrS.rf) hV.symm
    · rw [if_pos h16] at hV
      iterate 2 refine hS _ _ _ _ ?_
      exact qv (hQ _ FrS.rf) hV.symm
  · replace h4 := bI_f h4
    iterate 2 refine hS _ _ _ _ ?_
    rw [restV, iteC_f h4] at hV
    exact qv (hQ _ FrS.rf) hV.symm
theorem op_rest {s n : Int32} : OpOK 105 211 [.inl s, .inl n] := op_q (fun M => restV M s n) (fun M Q d hd hI hQ => c_rest hd hI hQ) (fun M Q d hd hI hQ => m_rest hd hI hQ) (fun M M' h => by simp only [restV, h.q (k := 61) (by omega), h.q (k := 62) (by omega), h.q (k := 63) (by omega), h.q (k := 64) (by omega)])
section W30
variable {d l b p K : Nat} {M : Mem} {Q : PQ} {f : FA}
theorem sp_rowAs {s s' : Nat} (hd : 1 ≤ d) (hne : s' ≠ s) (hQ : ∀ M1, (∀ k i, ¬ ((k = 16 ∨ k = 17) ∧ i = s) → M1 k i = M k i) → M1 16 s 0 0 = M 16 s' 0 0 → M1 16 s 0 1 = M 16 s' 0 1 → (∀ k, k < 24 → M1 17 s 0 k = M 17 s' 0 k) → Q none M1) : Td PR d 55 [.inr (16, s, 0), .inr (16, s', 0)] M Q := by
  have r1 : ∀ x y, mu (mu M 16 s 0 0 x) 16 s 0 1 y 16 s' = M 16 s' := fun x y => by rw [mu, mr_out (fun z => hne z.2), mu, mr_out (fun z => hne z.2)]
  have r0 : ∀ x, mu M 16 s 0 0 x 16 s' = M 16 s' := fun x => by rw [mu, mr_out (fun z => hne z.2)]
  obtain ⟨e, rfl⟩ : ∃ e, d = e + 1 := ⟨d - 1, by omega⟩
  refine td_X5_becomeAs ?_
  intro S hS
  iterate 16 refine hS _ _ _ _ ?_
  refine ⟨⟨by decide, by decide, by decide, (show 0 + 24 ≤ 24 from Nat.le_refl _), (show 0 + 24 ≤ 24 from Nat.le_refl _)⟩, ?_⟩
  refine hS _ _ _ _ ?_
  refine hQ _ (fun k i h => ?_) ?_ ?_ (fun k hk => ?_)
  · rw [mr_out (fun z => h ⟨Or.inr z.1, z.2⟩), mu, mr_out (fun z => h ⟨Or.inl z.1, z.2⟩), mu, mr_out (fun z => h ⟨Or.inl z.1, z.2⟩)]
  · rw [mr_k (show (16 : Nat) ≠ 17 by decide), mz_sl (by decide), mz_at]
  · rw [mr_k (show (16 : Nat) ≠ 17 by decide), mz_at, r0]
  · rw [mr_same]
    show (if 0 ≤ k ∧ k < 0 + 24 then M 17 s' 0 (0 + (k - 0)) else _) = _
    rw [if_pos (by omega)]
    exact congrArg _ (by omega)
/-- what laying into a slot touches in the class -/
def FLc (s : Nat) (M M' : Mem) : Prop := (∀ k i, ¬ (k = 19 ∧ i = s) → ¬ (k = 3 ∧ i = 3) → ¬ ((k = 16 ∨ k = 17) ∧ i = s + 4) → M' k i = M k i) ∧ ∀ j, j ≠ s → M' 3 3 j = M 3 3 j
theorem FLc.rf {s : Nat} : FLc s M M := ⟨fun _ _ _ _ _ => rfl, fun _ _ => rfl⟩
def F61 (M M' : Mem) : Prop := ∀ k, k ≠ 61 → k ≠ 62 → k ≠ 63 → k ≠ 64 → M' k = M k
theorem F61.rf : F61 M M := fun _ _ _ _ _ => rfl
/-- one slot agrees -/
def SL1 (M : Mem) (s : Nat) : Prop := M 61 0 0 s = M 19 s 0 0 ∧ isBd 4 (M 19 s 0 0) ∧ (M 19 s 0 0 = 1 → M 62 0 0 s = M 3 3 s 0 ∧ M 63 0 0 s = worthI (M 3 3 s 0) (M 3 3 s 1) (M 3 3 s 2) (M 3 3 s 3)) ∧ (M 19 s 0 0 = 2 → M 62 0 0 s = M 16 (s + 4) 0 1 ∧ isBd 25 (M 16 (s + 4) 0 1) ∧ ∀ k, k < 24 → M 64 0 0 (24 * s + k) = M 17 (s + 4) 0 k) ∧ (M 19 s 0 0 = 3 → M 62 0 0 s = M 19 s 0 3)
theorem lay_inv {M1 M2 : Mem} {s : Nat} (hI : INV M) (hs : s < 5) (f1 : FLc s M M1) (f2 : F61 M1 M2) (o61 : ∀ t, t ≠ s → M2 61 0 0 t = M 61 0 0 t) (o62 : ∀ t, t ≠ s → M2 62 0 0 t = M 62 0 0 t) (o63 : ∀ t, t ≠ s → M2 63 0 0 t = M 63 0 0 t) (o64 : ∀ t k, t ≠ s → k < 24 → M2 64 0 0 (24 * t + k) = M 64 0 0 (24 * t + k)) (hS : SL1 M2 s) : INV M2 ∧ Kp M1 M2 ∧ Kp M M1 := by
  have q : ∀ k, k ≠ 19 → k ≠ 3 → k ≠ 16 → k ≠ 17 → k ≠ 61 → k ≠ 62 → k ≠ 63 → k ≠ 64 → M2 k = M k := fun k a b c d e g h i => (f2 k e g h i).trans (funext fun x => f1.1 k x (by omega) (by omega) (by omega))
  refine ⟨?_, ⟨f2 90 (by decide) (by decide) (by decide) (by decide), f2 91 (by decide) (by decide) (by decide) (by decide)⟩, ⟨funext fun x => f1.1 90 x (by omega) (by omega) (by omega), funext fun x => f1.1 91 x (by omega) (by omega) (by omega)⟩⟩
  obtain ⟨a, b, c, d, e, g, k⟩ := hI
  have e3 : ∀ i, i ≠ 3 → M2 3 i = M 3 i := fun i hi => by rw [f2 3 (by omega) (by omega) (by omega) (by omega)]; exact f1.1 3 i (by omega) (by omega) (by omega)
  have e1 : M2 1 = M 1 := q 1 (by omega) (by omega) (by omega) (by omega) (by omega) (by omega) (by omega) (by omega)
  have e5 : M2 5 = M 5 := q 5 (by omega) (by omega) (by omega) (by omega) (by omega) (by omega) (by omega) (by omega)
  have e9 : M2 9 = M 9 := q 9 (by omega) (by omega) (by omega) (by omega) (by omega) (by omega) (by omega) (by omega)
  have e10 : M2 10 = M 10 := q 10 (by omega) (by omega) (by omega) (by omega) (by omega) (by omega) (by omega) (by omega)
  have e31 : M2 31 = M 31 := q 31 (by omega) (by omega) (by omega) (by omega) (by omega) (by omega) (by omega) (by omega)
  have e32 : M2 32 = M 32 := q 32 (by omega) (by omega) (by omega) (by omega) (by omega) (by omega) (by omega) (by omega)
  have e0 : M2 0 = M 0 := q 0 (by omega) (by omega) (by omega) (by omega) (by omega) (by omega) (by omega) (by omega)
  have e30 : M2 30 = M 30 := q 30 (by omega) (by omega) (by omega) (by omega) (by omega) (by omega) (by omega) (by omega)
  have e11 : M2 11 = M 11 := q 11 (by omega) (by omega) (by omega) (by omega) (by omega) (by omega) (by omega) (by omega)
  have s16 : ∀ t, t ≠ s + 4 → M2 16 t = M 16 t := fun t ht => by rw [f2 16 (by omega) (by omega) (by omega) (by omega)]; exact f1.1 16 t (by omega) (by omega) (by omega)
  have s17 : ∀ t, t ≠ s + 4 → M2 17 t = M 17 t := fun t ht => by rw [f2 17 (by omega) (by omega) (by omega) (by omega)]; exact f1.1 17 t (by omega) (by omega) (by omega)
  have s19 : ∀ t, t ≠ s → M2 19 t = M 19 t := fun t ht => by rw [f2 19 (by omega) (by omega) (by omega) (by omega)]; exact f1.1 19 t (by omega) (by omega) (by omega)
  have s3 : ∀ t, t ≠ s → M2 3 3 t = M 3 3 t := fun t ht => by rw [f2 3 (by omega) (by omega) (by omega) (by omega)]; exact f1.2 t ht
  refine ⟨a.cg (by rw [e1]) (e3 0 (by omega)) (by rw [e5]) e9 e10 (by rw [e31]),
    b.cg (by rw [e0]) (by rw [e30]) (by rw [e1]) (e3 2 (by omega)) (by rw [e5]) e9 e10 (by rw [e32]) (by rw [e31]),
    c.cg (fun t ht => s16 t (by omega)) (fun t ht => s17 t (by omega)) (q 58 (by omega) (by omega) (by omega) (by omega) (by omega) (by omega) (by omega) (by omega)) (q 59 (by omega) (by omega) (by omega) (by omega) (by omega) (by omega) (by omega) (by omega)) (q 60 (by omega) (by omega) (by omega) (by omega) (by omega) (by omega) (by omega) (by omega)), fun t ht => ?_,
    e.cg (by rw [e0]) (by rw [e30]) (q 20 (by omega) (by omega) (by omega) (by omega) (by omega) (by omega) (by omega) (by omega)) (q 66 (by omega) (by omega) (by omega) (by omega) (by omega) (by omega) (by omega) (by omega)),
    g.cg (by rw [e11]) (by rw [e30]) (q 12 (by omega) (by omega) (by omega) (by omega) (by omega) (by omega) (by omega) (by omega)) (q 40 (by omega) (by omega) (by omega) (by omega) (by omega) (by omega) (by omega) (by omega)),
    k.cg (q 48 (by omega) (by omega) (by omega) (by omega) (by omega) (by omega) (by omega) (by omega)) (q 49 (by omega) (by omega) (by omega) (by omega) (by omega) (by omega) (by omega) (by omega))⟩
  by_cases z : t = s
  · rw [z]; exact hS
  · rw [s19 t z, s3 t z, s16 (t + 4) (by omega), s17 (t + 4) (by omega), o61 t z, o62 t z, o63 t z]
    obtain ⟨x1, x2, x3, x4, x5⟩ := d t ht
    exact ⟨x1, x2, x3, fun y => ⟨(x4 y).1, (x4 y).2.1, fun k hk => by rw [o64 t k z hk]; exact (x4 y).2.2 k hk⟩, x5⟩
/-- what may be laid -/
def layOK (f : FA) (s t k : Int32) : Prop := isBd 5 s ∧ isBd 4 t ∧ (t = 1 → isBd (cB f) k) ∧ (t = 2 → isBd 4 k)
theorem c_layB {s t k : Int32} (hd : 500 ≤ d) (hI : INV M) (hn : ¬ layOK (M 31 0 0) s t k) (hQ : Q (some (.inl (-1000000001))) M) : Td PR d 102 [.inr (0, 0, 0), .inl s, .inl t, .inl k] M Q := by
  have hL := hI.ll
  obtain ⟨e, rfl⟩ : ∃ e, d = e + 1 := ⟨d - 1, by omega⟩
  refine td_X9_lay ?_
  intro S hS
  iterate 2 refine hS _ _ _ _ ?_
  refine sp_isSlot (by omega) ?_
  refine hS _ _ _ _ ?_
  refine And.intro (fun h4 => ?_) (fun h4 => ?_)
  · replace h4 := bI_f h4
    iterate 2 refine hS _ _ _ _ ?_
    exact hQ
  · replace h4 := bI_t h4
    iterate 2 refine hS _ _ _ _ ?_
    refine And.intro (fun h8 => ?_) (fun h8 => ?_)
    · iterate 2 refine hS _ _ _ _ ?_
      exact hQ
    · iterate 3 refine hS _ _ _ _ ?_
      refine And.intro (fun h13 => ?_) (fun h13 => ?_)
      · have hw : isBd 4 t := (in_bd1 (n := 3) (by omega)).mp ⟨h8, Int32.not_lt.mpr h13⟩
        iterate 3 refine hS _ _ _ _ ?_
        refine And.intro (fun h21 => ?_) (fun h21 => ?_)
        · iterate 3 refine hS _ _ _ _ ?_
          refine And.intro (fun h34 => ?_) (fun h34 => ?_)
          · exact absurd ⟨h4, hw, fun z => absurd z h21, fun z => absurd z h34⟩ hn
          · iterate 2 refine hS _ _ _ _ ?_
            refine sp_isSheet (by omega) ?_
            refine hS _ _ _ _ ?_
            refine And.intro (fun h41 => ?_) (fun h41 => ?_)
            · replace h41 := bI_t h41
              exact absurd ⟨h4, hw, fun z => absurd z h21, fun _ => h41⟩ hn
            · replace h41 := bI_f h41
              iterate 2 refine hS _ _ _ _ ?_
              exact hQ
        · have h21' : t = 1 := h21
          iterate 3 refine hS _ _ _ _ ?_
          refine sp_isBed (by omega) hL ?_
          refine hS _ _ _ _ ?_
          refine And.intro (fun h29 => ?_) (fun h29 => ?_)
          · replace h29 := bI_f h29
            iterate 2 refine hS _ _ _ _ ?_
            exact hQ
          · replace h29 := bI_t h29
            have hb := h29
            iterate 3 refine hS _ _ _ _ ?_
            refine And.intro (fun h34 => ?_) (fun h34 => ?_)
            · exact absurd ⟨h4, hw, fun _ => h29, fun z => absurd (h21'.symm.trans z) (by decide)⟩ hn
            · exact absurd (h21'.symm.trans h34) (by decide)
      · iterate 2 refine hS _ _ _ _ ?_
        exact hQ
theorem m_layB {s t k : Int32} (hd : 500 ≤ d) (hC : CN (M 31 0 0)) (hn : ¬ layOK (M 31 0 0) s t k) (hQ : Q (some (.inl (-1000000001))) M) : Td PR d 208 [.inr (30, 0, 0), .inl s, .inl t, .inl k] M Q := by
  obtain ⟨e, rfl⟩ : ∃ e, d = e + 1 := ⟨d - 1, by omega⟩
  refine td_X10_lay ?_
  intro S hS
  iterate 2 refine hS _ _ _ _ ?_
  refine sm_isSlot (by omega) ?_
  refine hS _ _ _ _ ?_
  refine And.intro (fun h4 => ?_) (fun h4 => ?_)
  · replace h4 := bI_f h4
    iterate 2 refine hS _ _ _ _ ?_
    exact hQ
  · replace h4 := bI_t h4
    iterate 4 refine hS _ _ _ _ ?_
    refine sm_in (by omega) ?_
    refine hS _ _ _ _ ?_
    refine And.intro (fun h13 => ?_) (fun h13 => ?_)
    · replace h13 := bI_f h13
      iterate 2 refine hS _ _ _ _ ?_
      exact hQ
    · replace h13 := bI_t h13
      have hw : isBd 4 t := (in_bd1 (n := 3) (by omega)).mp h13
      iterate 3 refine hS _ _ _ _ ?_
      refine And.intro (fun h18 => ?_) (fun h18 => ?_)
      · iterate 3 refine hS _ _ _ _ ?_
        refine And.intro (fun h31 => ?_) (fun h31 => ?_)
        · exact absurd ⟨h4, hw, fun z => absurd z h18, fun z => absurd z h31⟩ hn
        · iterate 2 refine hS _ _ _ _ ?_
          refine sm_isSheet (by omega) ?_
          refine hS _ _ _ _ ?_
          refine And.intro (fun h38 => ?_) (fun h38 => ?_)
          · replace h38 := bI_t h38
            exact absurd ⟨h4, hw, fun z => absurd z h18, fun _ => h38⟩ hn
          · replace h38 := bI_f h38
            iterate 2 refine hS _ _ _ _ ?_
            exact hQ
      · have h18' : t = 1 := h18
        iterate 3 refine hS _ _ _ _ ?_
        refine sm_isBed (by omega) hC ?_
        refine hS _ _ _ _ ?_
        refine And.intro (fun h26 => ?_) (fun h26 => ?_)
        · replace h26 := bI_f h26
          iterate 2 refine hS _ _ _ _ ?_
          exact hQ
        · replace h26 := bI_t h26
          iterate 3 refine hS _ _ _ _ ?_
          refine And.intro (fun h31 => ?_) (fun h31 => ?_)
          · exact absurd ⟨h4, hw, fun _ => h26, fun z => absurd (h18'.symm.trans z) (by decide)⟩ hn
          · exact absurd (h18'.symm.trans h31) (by decide)
end W30
section W30b
variable {d b s : Nat} {M : Mem} {Q : PQ} {k : Int32}
theorem FLc.put {x y : Nat} {v : Int32} {M1 : Mem} (h : FLc s M M1) : FLc s M (mu M1 19 s x y v) := ⟨fun k i a b c => by rw [mu, mr_out a]; exact h.1 k i a b c, fun j hj => h.2 j hj⟩
theorem c_lay0 (hd : 500 ≤ d) (hI : INV M) (hs : s < 5) (hQ : ∀ M1, FLc s M M1 → (M1 19 s 0 0 = 0) → Q (some (.inl (M 19 s 0 0))) M1) : Td PR d 102 [.inr (0, 0, 0), .inl (nI s), .inl 0, .inl k] M Q := by
  have hL := hI.ll
  have hb10 := hL.b10
  obtain ⟨e, rfl⟩ : ∃ e, d = e + 1 := ⟨d - 1, by omega⟩
  refine td_X9_lay ?_
  intro S hS
  iterate 2 refine hS _ _ _ _ ?_
  refine sp_isSlot (by omega) ?_
  refine hS _ _ _ _ ?_
  refine And.intro (fun h4 => ?_) (fun h4 => ?_)
  · replace h4 := bI_f h4
    exact absurd (isBd_nI hs) h4
  · replace h4 := bI_t h4
    iterate 2 refine hS _ _ _ _ ?_
    refine And.intro (fun h => absurd h (by decide)) (fun _ => ?_)
    iterate 3 refine hS _ _ _ _ ?_
    refine And.intro (fun _ => ?_) (fun h => absurd h (by decide))
    iterate 3 refine hS _ _ _ _ ?_
    refine And.intro (fun _ => ?_) (fun h => absurd h (by decide))
    iterate 3 refine hS _ _ _ _ ?_
    refine And.intro (fun _ => ?_) (fun h => absurd h (by decide))
    iterate 3 refine hS _ _ _ _ ?_
    refine And.intro (fun _ => ?_) (fun h => absurd h (by decide))
    iterate 4 refine hS _ _ _ _ ?_
    refine ⟨(by first | assumption | exact vp_in_nI (by simp only [alen]; omega) (by decide)), ?_⟩
    try rw [nI_clamp (by omega)]
    iterate 10 refine hS _ _ _ _ ?_
    refine And.intro (fun _ => ?_) (fun h => absurd h (by decide))
    iterate 3 refine hS _ _ _ _ ?_
    refine And.intro (fun _ => ?_) (fun h => absurd h (by decide))
    iterate 3 refine hS _ _ _ _ ?_
    refine And.intro (fun _ => ?_) (fun h => absurd h (by decide))
    iterate 2 refine hS _ _ _ _ ?_
    exact hQ _ (FLc.rf.put) mz_at
theorem c_lay1 (hd : 500 ≤ d) (hI : INV M) (hs : s < 5) (hb : b < cB (M 31 0 0)) (hQ : ∀ M1, FLc s M M1 → (M1 19 s 0 0 = 1 ∧ M1 3 3 s 0 = M 31 0 0 (10 + 4 * b) ∧ M1 3 3 s 1 = M 31 0 0 (11 + 4 * b) ∧ M1 3 3 s 2 = M 31 0 0 (12 + 4 * b) ∧ M1 3 3 s 3 = M 31 0 0 (13 + 4 * b)) → Q (some (.inl (M 19 s 0 0))) M1) : Td PR d 102 [.inr (0, 0, 0), .inl (nI s), .inl 1, .inl (nI b)] M Q := by
  have hL := hI.ll
  have hb10 := hL.b10
  have e0 := hL.kind hb
  have e1 := hL.at hb
  have e2 := hL.to hb
  have e3 := hL.other hb
  obtain ⟨e, rfl⟩ : ∃ e, d = e + 1 := ⟨d - 1, by omega⟩
  refine td_X9_lay ?_
  intro S hS
  iterate 2 refine hS _ _ _ _ ?_
  refine sp_isSlot (by omega) ?_
  refine hS _ _ _ _ ?_
  refine And.intro (fun h4 => ?_) (fun h4 => ?_)
  · replace h4 := bI_f h4
    exact absurd (isBd_nI hs) h4
  · replace h4 := bI_t h4
    iterate 2 refine hS _ _ _ _ ?_
    refine And.intro (fun h => absurd h (by decide)) (fun _ => ?_)
    iterate 3 refine hS _ _ _ _ ?_
    refine And.intro (fun _ => ?_) (fun h => absurd h (by decide))
    iterate 3 refine hS _ _ _ _ ?_
    refine And.intro (fun h => absurd h (by decide)) (fun _ => ?_)
    iterate 3 refine hS _ _ _ _ ?_
    refine sp_isBed (by omega) hL ?_
    refine hS _ _ _ _ ?_
    refine And.intro (fun h29 => ?_) (fun h29 => ?_)
    · replace h29 := bI_f h29
      exact absurd (isBd_nI hb) h29
    · replace h29 := bI_t h29
      iterate 3 refine hS _ _ _ _ ?_
      refine And.intro (fun _ => ?_) (fun h => absurd h (by decide))
      iterate 3 refine hS _ _ _ _ ?_
      refine And.intro (fun _ => ?_) (fun h => absurd h (by decide))
      iterate 4 refine hS _ _ _ _ ?_
      refine ⟨(by first | assumption | exact vp_in_nI (by simp only [alen]; omega) (by decide)), ?_⟩
      try rw [nI_clamp (by omega)]
      iterate 10 refine hS _ _ _ _ ?_
      refine And.intro (fun h => absurd h (by decide)) (fun _ => ?_)
      iterate 7 refine hS _ _ _ _ ?_
      refine ⟨(by first | assumption | exact vp_in_nI (by simp only [alen]; omega) (by decide)), ?_⟩
      try rw [nI_clamp (by omega)]
      refine hS _ _ _ _ ?_
      refine sp_bedAs (by omega) (fun z => absurd z.1 (by decide)) (fun M2 c0 c1 c2 c3 c4 => ?_)
      iterate 3 refine hS _ _ _ _ ?_
      refine hQ M2 ⟨fun k' i' a1 a2 a3 => ?_, fun j hj => ?_⟩ ⟨?_, c0.trans e0, c1.trans e1, c2.trans e2, c3.trans e3⟩
      · funext x
        rw [c4 k' i' x (fun z => a2 ⟨z.1, z.2.1⟩)]
        exact congrFun (by rw [mu, mr_out a1]) x
      · exact c4 3 3 j (fun z => hj z.2.2)
      · rw [c4 19 s 0 (fun z => absurd z.1 (by decide)), mz_at]
theorem c_lay2 (hd : 500 ≤ d) (hI : INV M) (hs : s < 5) (hb : b < 4) (hn : ¬ M 16 b 0 0 = -1) (hQ : ∀ M1, FLc s M M1 → (M1 19 s 0 0 = 2 ∧ M1 16 (s + 4) 0 1 = M 16 b 0 1 ∧ ∀ q, q < 24 → M1 17 (s + 4) 0 q = M 17 b 0 q) → Q (some (.inl (M 19 s 0 0))) M1) : Td PR d 102 [.inr (0, 0, 0), .inl (nI s), .inl 2, .inl (nI b)] M Q := by
  have hL := hI.ll
  have hb10 := hL.b10
  obtain ⟨e, rfl⟩ : ∃ e, d = e + 1 := ⟨d - 1, by omega⟩
  refine td_X9_lay ?_
  intro S hS
  iterate 2 refine hS _ _ _ _ ?_
  refine sp_isSlot (by omega) ?_
  refine hS _ _ _ _ ?_
  refine And.intro (fun h4 => ?_) (fun h4 => ?_)
  · replace h4 := bI_f h4
    exact absurd (isBd_nI hs) h4
  · replace h4 := bI_t h4
    iterate 2 refine hS _ _ _ _ ?_
    refine And.intro (fun h => absurd h (by decide)) (fun _ => ?_)
    iterate 3 refine hS _ _ _ _ ?_
    refine And.intro (fun _ => ?_) (fun h => absurd h (by decide))
    iterate 3 refine hS _ _ _ _ ?_
    refine And.intro (fun _ => ?_) (fun h => absurd h (by decide))
    iterate 3 refine hS _ _ _ _ ?_
    refine And.intro (fun h => absurd h (by decide)) (fun _ => ?_)
    iterate 2 refine hS _ _ _ _ ?_
    refine sp_isSheet (by omega) ?_
    refine hS _ _ _ _ ?_
    refine And.intro (fun h41 => ?_) (fun h41 => ?_)
    · replace h41 := bI_t h41
      iterate 3 refine hS _ _ _ _ ?_
      refine And.intro (fun h => absurd h (by decide)) (fun _ => ?_)
      iterate 4 refine hS _ _ _ _ ?_
      refine ⟨(by first | assumption | exact vp_in_nI (by simp only [alen]; omega) (by decide)), ?_⟩
      try rw [nI_clamp (by omega)]
      refine hS _ _ _ _ ?_
      refine sp_isMissing (by omega) ?_
      refine hS _ _ _ _ ?_
      refine And.intro (fun h61 => ?_) (fun h61 => ?_)
      · replace h61 := bI_f h61
        iterate 4 refine hS _ _ _ _ ?_
        refine ⟨(by first | assumption | exact vp_in_nI (by simp only [alen]; omega) (by decide)), ?_⟩
        try rw [nI_clamp (by omega)]
        iterate 10 refine hS _ _ _ _ ?_
        refine And.intro (fun _ => ?_) (fun h => absurd h (by decide))
        iterate 3 refine hS _ _ _ _ ?_
        refine And.intro (fun h => absurd h (by decide)) (fun _ => ?_)
        iterate 6 refine hS _ _ _ _ ?_
        refine ⟨(by first | assumption | exact vp_in_nI (by simp only [alen]; omega) (by decide)), ?_⟩
        try rw [nI_clamp (by omega)]
        refine hS _ _ _ _ ?_
        refine sp_rowAs (by omega) (by omega) (fun M2 c0 c1 c2 c3 => ?_)
        iterate 3 refine hS _ _ _ _ ?_
        refine hQ M2 ⟨fun k' i' a1 a2 a3 => ?_, fun j hj => ?_⟩ ⟨?_, c2, c3⟩
        · rw [c0 k' i' a3, mu, mr_out a1]
        · rw [c0 3 3 (fun z => by omega)]; rfl
        · rw [c0 19 s (fun z => by omega), mz_at]
      · replace h61 := bI_t h61
        exact absurd h61 hn
    · replace h41 := bI_f h41
      exact absurd (isBd_nI hb) h41
theorem c_lay3 (hd : 500 ≤ d) (hI : INV M) (hs : s < 5) (hQ : ∀ M1, FLc s M M1 → (M1 19 s 0 0 = 3 ∧ M1 19 s 0 3 = k) → Q (some (.inl (M 19 s 0 0))) M1) : Td PR d 102 [.inr (0, 0, 0), .inl (nI s), .inl 3, .inl k] M Q := by
  have hL := hI.ll
  have hb10 := hL.b10
  obtain ⟨e, rfl⟩ : ∃ e, d = e + 1 := ⟨d - 1, by omega⟩
  refine td_X9_lay ?_
  intro S hS
  iterate 2 refine hS _ _ _ _ ?_
  refine sp_isSlot (by omega) ?_
  refine hS _ _ _ _ ?_
  refine And.intro (fun h4 => ?_) (fun h4 => ?_)
  · replace h4 := bI_f h4
    exact absurd (isBd_nI hs) h4
  · replace h4 := bI_t h4
    iterate 2 refine hS _ _ _ _ ?_
    refine And.intro (fun h => absurd h (by decide)) (fun _ => ?_)
    iterate 3 refine hS _ _ _ _ ?_
    refine And.intro (fun _ => ?_) (fun h => absurd h (by decide))
    iterate 3 refine hS _ _ _ _ ?_
    refine And.intro (fun _ => ?_) (fun h => absurd h (by decide))
    iterate 3 refine hS _ _ _ _ ?_
    refine And.intro (fun _ => ?_) (fun h => absurd h (by decide))
    iterate 3 refine hS _ _ _ _ ?_
    refine And.intro (fun _ => ?_) (fun h => absurd h (by decide))
    iterate 4 refine hS _ _ _ _ ?_
    refine ⟨(by first | assumption | exact vp_in_nI (by simp only [alen]; omega) (by decide)), ?_⟩
    try rw [nI_clamp (by omega)]
    iterate 10 refine hS _ _ _ _ ?_
    refine And.intro (fun _ => ?_) (fun h => absurd h (by decide))
    iterate 3 refine hS _ _ _ _ ?_
    refine And.intro (fun _ => ?_) (fun h => absurd h (by decide))
    iterate 3 refine hS _ _ _ _ ?_
    refine And.intro (fun h => absurd h (by decide)) (fun _ => ?_)
    iterate 5 refine hS _ _ _ _ ?_
    exact hQ _ (FLc.rf.put.put) ⟨by rw [mz_sl (by decide)]; exact mz_at, mz_at⟩
theorem m_lay0 (hd : 500 ≤ d) (hC : CN (M 31 0 0)) (hs : s < 5) (hQ : ∀ M2, F61 M M2 → (∀ t, t ≠ s → M2 61 0 0 t = M 61 0 0 t) → (∀ t, t ≠ s → M2 62 0 0 t = M 62 0 0 t) → (∀ t, t ≠ s → M2 63 0 0 t = M 63 0 0 t) → (∀ t q, t ≠ s → q < 24 → M2 64 0 0 (24 * t + q) = M 64 0 0 (24 * t + q)) → (M2 61 0 0 s = 0) → Q (some (.inl (M 61 0 0 s))) M2) : Td PR d 208 [.inr (30, 0, 0), .inl (nI s), .inl 0, .inl k] M Q := by
  have hb10 := hC.2.1
  obtain ⟨e, rfl⟩ : ∃ e, d = e + 1 := ⟨d - 1, by omega⟩
  refine td_X10_lay ?_
  intro S hS
  generalize hM3 : mu (mu (mu M 61 0 0 s 0) 62 0 0 s (k)) 63 0 0 s (0) = M3
  have f3 : F61 M M3 := fun k a b c d => by rw [← hM3]; exact (mz_k c).trans ((mz_k b).trans (mz_k a))
  have o61 : ∀ t, t ≠ s → M3 61 0 0 t = M 61 0 0 t := fun t ht => by rw [← hM3]; show mu M 61 0 0 s 0 61 0 0 t = _; rw [upd_mu, upd_ne ht]
  have o62 : ∀ t, t ≠ s → M3 62 0 0 t = M 62 0 0 t := fun t ht => by rw [← hM3]; show mu (mu M 61 0 0 s 0) 62 0 0 s (k) 62 0 0 t = _; rw [upd_mu, upd_ne ht]; rfl
  have o63 : ∀ t, t ≠ s → M3 63 0 0 t = M 63 0 0 t := fun t ht => by rw [← hM3, upd_mu, upd_ne ht]; rfl
  have o64 : M3 64 = M 64 := by rw [← hM3]; rfl
  have e61 : M3 61 0 0 s = 0 := by rw [← hM3]; exact (show mu M 61 0 0 s 0 61 0 0 s = 0 from mz_at)
  have e62 : M3 62 0 0 s = k := by rw [← hM3]; exact (show mu (mu M 61 0 0 s 0) 62 0 0 s (k) 62 0 0 s = k from mz_at)
  have e63 : M3 63 0 0 s = 0 := by rw [← hM3]; exact mz_at
  iterate 2 refine hS _ _ _ _ ?_
  refine sm_isSlot (by omega) ?_
  refine hS _ _ _ _ ?_
  refine And.intro (fun h4 => ?_) (fun h4 => ?_)
  · replace h4 := bI_f h4
    exact absurd (isBd_nI hs) h4
  · replace h4 := bI_t h4
    iterate 4 refine hS _ _ _ _ ?_
    refine sm_in (by omega) ?_
    refine hS _ _ _ _ ?_
    refine And.intro (fun h13 => ?_) (fun h13 => ?_)
    · replace h13 := bI_f h13
      exact absurd ⟨by decide, by decide⟩ h13
    · replace h13 := bI_t h13
      iterate 3 refine hS _ _ _ _ ?_
      refine And.intro (fun _ => ?_) (fun h => absurd h (by decide))
      iterate 3 refine hS _ _ _ _ ?_
      refine And.intro (fun _ => ?_) (fun h => absurd h (by decide))
      iterate 3 refine hS _ _ _ _ ?_
      refine And.intro (fun _ => ?_) (fun h => absurd h (by decide))
      iterate 4 refine hS _ _ _ _ ?_
      refine ⟨(by first | assumption | exact vp_in_nI (by simp only [alen]; omega) (by decide)), ?_⟩
      try rw [nI_clamp (by omega)]
      iterate 6 refine hS _ _ _ _ ?_
      refine ⟨(by first | assumption | exact vp_in_nI (by simp only [alen]; omega) (by decide)), ?_⟩
      try rw [nI_clamp (by omega)]
      iterate 6 refine hS _ _ _ _ ?_
      refine And.intro (fun _ => ?_) (fun h => absurd h (by decide))
      iterate 3 refine hS _ _ _ _ ?_
      refine And.intro (fun _ => ?_) (fun h => absurd h (by decide))
      iterate 2 refine hS _ _ _ _ ?_
      refine ⟨(by first | assumption | exact vp_in_nI (by simp only [alen]; omega) (by decide)), ?_⟩
      try rw [nI_clamp (by omega)]
      iterate 6 refine hS _ _ _ _ ?_
      refine And.intro (fun _ => ?_) (fun h => absurd h (by decide))
      iterate 2 refine hS _ _ _ _ ?_
      refine ⟨(by first | assumption | exact vp_in_nI (by simp only [alen]; omega) (by decide)), ?_⟩
      try rw [nI_clamp (by omega)]
      iterate 5 refine hS _ _ _ _ ?_
      refine And.intro (fun h => absurd h (by decide)) (fun _ => ?_)
      iterate 3 refine hS _ _ _ _ ?_
      refine And.intro (fun _ => ?_) (fun h => absurd h (by decide))
      iterate 2 refine hS _ _ _ _ ?_
      skip
      have fin := hQ M3 f3 o61 o62 o63 (fun t q _ _ => by rw [o64]) e61
      rw [← hM3] at fin
      exact fin
theorem m_lay1 (hd : 500 ≤ d) (hC : CN (M 31 0 0)) (hs : s < 5) (hb : b < cB (M 31 0 0)) (hQ : ∀ M2, F61 M M2 → (∀ t, t ≠ s → M2 61 0 0 t = M 61 0 0 t) → (∀ t, t ≠ s → M2 62 0 0 t = M 62 0 0 t) → (∀ t, t ≠ s → M2 63 0 0 t = M 63 0 0 t) → (∀ t q, t ≠ s → q < 24 → M2 64 0 0 (24 * t + q) = M 64 0 0 (24 * t + q)) → (M2 61 0 0 s = 1 ∧ M2 62 0 0 s = M 31 0 0 (10 + 4 * b) ∧ M2 63 0 0 s = worthI (M 31 0 0 (10 + 4 * b)) (M 31 0 0 (11 + 4 * b)) (M 31 0 0 (12 + 4 * b)) (M 31 0 0 (13 + 4 * b))) → Q (some (.inl (M 61 0 0 s))) M2) : Td PR d 208 [.inr (30, 0, 0), .inl (nI s), .inl 1, .inl (nI b)] M Q := by
  have hb10 := hC.2.1
  obtain ⟨e, rfl⟩ : ∃ e, d = e + 1 := ⟨d - 1, by omega⟩
  refine td_X10_lay ?_
  intro S hS
  generalize hM3 : mu (mu (mu M 61 0 0 s 1) 62 0 0 s (M 31 0 0 (10 + 4 * b))) 63 0 0 s (worthI (M 31 0 0 (10 + 4 * b)) (M 31 0 0 (11 + 4 * b)) (M 31 0 0 (12 + 4 * b)) (M 31 0 0 (13 + 4 * b))) = M3
  have f3 : F61 M M3 := fun k a b c d => by rw [← hM3]; exact (mz_k c).trans ((mz_k b).trans (mz_k a))
  have o61 : ∀ t, t ≠ s → M3 61 0 0 t = M 61 0 0 t := fun t ht => by rw [← hM3]; show mu M 61 0 0 s 1 61 0 0 t = _; rw [upd_mu, upd_ne ht]
  have o62 : ∀ t, t ≠ s → M3 62 0 0 t = M 62 0 0 t := fun t ht => by rw [← hM3]; show mu (mu M 61 0 0 s 1) 62 0 0 s (M 31 0 0 (10 + 4 * b)) 62 0 0 t = _; rw [upd_mu, upd_ne ht]; rfl
  have o63 : ∀ t, t ≠ s → M3 63 0 0 t = M 63 0 0 t := fun t ht => by rw [← hM3, upd_mu, upd_ne ht]; rfl
  have o64 : M3 64 = M 64 := by rw [← hM3]; rfl
  have e61 : M3 61 0 0 s = 1 := by rw [← hM3]; exact (show mu M 61 0 0 s 1 61 0 0 s = 1 from mz_at)
  have e62 : M3 62 0 0 s = M 31 0 0 (10 + 4 * b) := by rw [← hM3]; exact (show mu (mu M 61 0 0 s 1) 62 0 0 s (M 31 0 0 (10 + 4 * b)) 62 0 0 s = M 31 0 0 (10 + 4 * b) from mz_at)
  have e63 : M3 63 0 0 s = worthI (M 31 0 0 (10 + 4 * b)) (M 31 0 0 (11 + 4 * b)) (M 31 0 0 (12 + 4 * b)) (M 31 0 0 (13 + 4 * b)) := by rw [← hM3]; exact mz_at
  iterate 2 refine hS _ _ _ _ ?_
  refine sm_isSlot (by omega) ?_
  refine hS _ _ _ _ ?_
  refine And.intro (fun h4 => ?_) (fun h4 => ?_)
  · replace h4 := bI_f h4
    exact absurd (isBd_nI hs) h4
  · replace h4 := bI_t h4
    iterate 4 refine hS _ _ _ _ ?_
    refine sm_in (by omega) ?_
    refine hS _ _ _ _ ?_
    refine And.intro (fun h13 => ?_) (fun h13 => ?_)
    · replace h13 := bI_f h13
      exact absurd ⟨by decide, by decide⟩ h13
    · replace h13 := bI_t h13
      iterate 3 refine hS _ _ _ _ ?_
      refine And.intro (fun h => absurd h (by decide)) (fun _ => ?_)
      iterate 3 refine hS _ _ _ _ ?_
      refine sm_isBed (by omega) hC ?_
      refine hS _ _ _ _ ?_
      refine And.intro (fun h26 => ?_) (fun h26 => ?_)
      · replace h26 := bI_f h26
        exact absurd (isBd_nI hb) h26
      · replace h26 := bI_t h26
        iterate 3 refine hS _ _ _ _ ?_
        refine And.intro (fun _ => ?_) (fun h => absurd h (by decide))
        iterate 3 refine hS _ _ _ _ ?_
        refine And.intro (fun _ => ?_) (fun h => absurd h (by decide))
        iterate 4 refine hS _ _ _ _ ?_
        refine ⟨(by first | assumption | exact vp_in_nI (by simp only [alen]; omega) (by decide)), ?_⟩
        try rw [nI_clamp (by omega)]
        iterate 6 refine hS _ _ _ _ ?_
        refine ⟨(by first | assumption | exact vp_in_nI (by simp only [alen]; omega) (by decide)), ?_⟩
        try rw [nI_clamp (by omega)]
        iterate 6 refine hS _ _ _ _ ?_
        refine And.intro (fun h => absurd h (by decide)) (fun _ => ?_)
        iterate 4 refine hS _ _ _ _ ?_
        refine sm_of0 (by omega) (by omega) ?_
        iterate 2 refine hS _ _ _ _ ?_
        refine ⟨(by first | assumption | exact vp_in_nI (by simp only [alen]; omega) (by decide)), ?_⟩
        try rw [nI_clamp (by omega)]
        iterate 6 refine hS _ _ _ _ ?_
        refine And.intro (fun h => absurd h (by decide)) (fun _ => ?_)
        iterate 3 refine hS _ _ _ _ ?_
        refine sm_worthOf (by omega) (by omega) ?_
        iterate 2 refine hS _ _ _ _ ?_
        refine ⟨(by first | assumption | exact vp_in_nI (by simp only [alen]; omega) (by decide)), ?_⟩
        try rw [nI_clamp (by omega)]
        iterate 5 refine hS _ _ _ _ ?_
        refine And.intro (fun h => absurd h (by decide)) (fun _ => ?_)
        iterate 3 refine hS _ _ _ _ ?_
        refine And.intro (fun _ => ?_) (fun h => absurd h (by decide))
        iterate 2 refine hS _ _ _ _ ?_
        skip
        have fin := hQ M3 f3 o61 o62 o63 (fun t q _ _ => by rw [o64]) ⟨e61, e62, e63⟩
        rw [← hM3] at fin
        exact fin
theorem m_lay2 (hd : 500 ≤ d) (hC : CN (M 31 0 0)) (hs : s < 5) (hb : b < 4) (hn : ¬ M 58 0 0 b < 0) (hQ : ∀ M2, F61 M M2 → (∀ t, t ≠ s → M2 61 0 0 t = M 61 0 0 t) → (∀ t, t ≠ s → M2 62 0 0 t = M 62 0 0 t) → (∀ t, t ≠ s → M2 63 0 0 t = M 63 0 0 t) → (∀ t q, t ≠ s → q < 24 → M2 64 0 0 (24 * t + q) = M 64 0 0 (24 * t + q)) → (M2 61 0 0 s = 2 ∧ M2 62 0 0 s = M 59 0 0 b ∧ ∀ q, q < 24 → M2 64 0 0 (24 * s + q) = M 60 0 0 (24 * b + q)) → Q (some (.inl (M 61 0 0 s))) M2) : Td PR d 208 [.inr (30, 0, 0), .inl (nI s), .inl 2, .inl (nI b)] M Q := by
  have hb10 := hC.2.1
  obtain ⟨e, rfl⟩ : ∃ e, d = e + 1 := ⟨d - 1, by omega⟩
  refine td_X10_lay ?_
  intro S hS
  generalize hM3 : mu (mu (mu M 61 0 0 s 2) 62 0 0 s (M 59 0 0 b)) 63 0 0 s (0) = M3
  have f3 : F61 M M3 := fun k a b c d => by rw [← hM3]; exact (mz_k c).trans ((mz_k b).trans (mz_k a))
  have o61 : ∀ t, t ≠ s → M3 61 0 0 t = M 61 0 0 t := fun t ht => by rw [← hM3]; show mu M 61 0 0 s 2 61 0 0 t = _; rw [upd_mu, upd_ne ht]
  have o62 : ∀ t, t ≠ s → M3 62 0 0 t = M 62 0 0 t := fun t ht => by rw [← hM3]; show mu (mu M 61 0 0 s 2) 62 0 0 s (M 59 0 0 b) 62 0 0 t = _; rw [upd_mu, upd_ne ht]; rfl
  have o63 : ∀ t, t ≠ s → M3 63 0 0 t = M 63 0 0 t := fun t ht => by rw [← hM3, upd_mu, upd_ne ht]; rfl
  have o64 : M3 64 = M 64 := by rw [← hM3]; rfl
  have e61 : M3 61 0 0 s = 2 := by rw [← hM3]; exact (show mu M 61 0 0 s 2 61 0 0 s = 2 from mz_at)
  have e62 : M3 62 0 0 s = M 59 0 0 b := by rw [← hM3]; exact (show mu (mu M 61 0 0 s 2) 62 0 0 s (M 59 0 0 b) 62 0 0 s = M 59 0 0 b from mz_at)
  have e63 : M3 63 0 0 s = 0 := by rw [← hM3]; exact mz_at
  have lp : S 134 [some (.inr (30, 0, 0)), some (.inl (nI s)), some (.inl 2), some (.inl (nI b)), some (.inl (M 61 0 0 s)), some (.inl 0)] [] M3 := by
    refine lp_up (T := fun i => ∀ M2, (∀ k, k ≠ 64 → M2 k = M3 k) → (∀ x, M2 64 0 0 x = if 24 * s ≤ x ∧ x < 24 * s + i then M 60 0 0 (24 * b + (x - 24 * s)) else M 64 0 0 x) → S 134 [some (.inr (30, 0, 0)), some (.inl (nI s)), some (.inl 2), some (.inl (nI b)), some (.inl (M 61 0 0 s)), some (.inl (nI i))] [] M2) (N := 24) ?_ ?_ 0 (Nat.zero_le _) M3 (fun _ _ => rfl) (fun x => by rw [if_neg (by omega), o64])
    · intro M2 a1 a2
      iterate 3 refine hS _ _ _ _ ?_
      refine And.intro (fun h138 => ?_) (fun h138 => ?_)
      · iterate 2 refine hS _ _ _ _ ?_
        refine hQ M2 (fun k x1 x2 x3 x4 => (a1 k x4).trans (f3 k x1 x2 x3 x4)) (fun t ht => by rw [a1 61 (by decide)]; exact o61 t ht) (fun t ht => by rw [a1 62 (by decide)]; exact o62 t ht) (fun t ht => by rw [a1 63 (by decide)]; exact o63 t ht) (fun t q ht hq => by rw [a2, if_neg (by omega)]) ⟨by rw [a1 61 (by decide)]; exact e61, by rw [a1 62 (by decide)]; exact e62, fun q hq => ?_⟩
        rw [a2, if_pos (by omega)]
        exact congrArg _ (by omega)
      · exact (lp_x (n := 24) rfl h138).elim
    · intro i hi ih M2 a1 a2
      rw [nI_succ i] at ih
      have ix : (24 : Int32) * nI s + nI i = nI (24 * s + i) := by
        show nI 24 * nI s + nI i = _
        rw [nI_mul, nI_add]
      have ix2 : (24 : Int32) * nI b + nI i = nI (24 * b + i) := by
        show nI 24 * nI b + nI i = _
        rw [nI_mul, nI_add]
      have e60 : M2 60 = M 60 := (a1 60 (by decide)).trans (f3 60 (by decide) (by decide) (by decide) (by decide))
      iterate 3 refine hS _ _ _ _ ?_
      refine And.intro (fun h138 => ?_) (fun h138 => ?_)
      · exact (lp_s (n := 24) rfl hi (by omega) h138).elim
      · iterate 3 refine hS _ _ _ _ ?_
        refine And.intro (fun h => absurd h (by decide)) (fun _ => ?_)
        iterate 15 refine hS _ _ _ _ ?_
        rw [ix2]
        refine ⟨(by first | assumption | exact vp_in_nI (by simp only [alen]; omega) (by decide)), ?_⟩
        try rw [nI_clamp (by omega)]
        refine hS _ _ _ _ ?_
        rw [ix]
        refine ⟨(by first | assumption | exact vp_in_nI (by simp only [alen]; omega) (by decide)), ?_⟩
        try rw [nI_clamp (by omega)]
        iterate 2 refine hS _ _ _ _ ?_
        refine ih (mu M2 64 0 0 (24 * s + i) (M2 60 0 0 (24 * b + i))) (fun k hk => (mz_k hk).trans (a1 k hk)) (fun x => ?_)
        by_cases y : x = 24 * s + i
        · subst y
          rw [mz_at, if_pos (by omega), e60]
          exact congrArg _ (by omega)
        · rw [upd_mu, upd_ne y, a2]
          by_cases w : 24 * s ≤ x ∧ x < 24 * s + i
          · rw [if_pos w, if_pos (by omega)]
          · rw [if_neg w, if_neg (by omega)]
  iterate 2 refine hS _ _ _ _ ?_
  refine sm_isSlot (by omega) ?_
  refine hS _ _ _ _ ?_
  refine And.intro (fun h4 => ?_) (fun h4 => ?_)
  · replace h4 := bI_f h4
    exact absurd (isBd_nI hs) h4
  · replace h4 := bI_t h4
    iterate 4 refine hS _ _ _ _ ?_
    refine sm_in (by omega) ?_
    refine hS _ _ _ _ ?_
    refine And.intro (fun h13 => ?_) (fun h13 => ?_)
    · replace h13 := bI_f h13
      exact absurd ⟨by decide, by decide⟩ h13
    · replace h13 := bI_t h13
      iterate 3 refine hS _ _ _ _ ?_
      refine And.intro (fun _ => ?_) (fun h => absurd h (by decide))
      iterate 3 refine hS _ _ _ _ ?_
      refine And.intro (fun h => absurd h (by decide)) (fun _ => ?_)
      iterate 2 refine hS _ _ _ _ ?_
      refine sm_isSheet (by omega) ?_
      refine hS _ _ _ _ ?_
      refine And.intro (fun h38 => ?_) (fun h38 => ?_)
      · replace h38 := bI_t h38
        iterate 3 refine hS _ _ _ _ ?_
        refine And.intro (fun h => absurd h (by decide)) (fun _ => ?_)
        iterate 4 refine hS _ _ _ _ ?_
        refine ⟨(by first | assumption | exact vp_in_nI (by simp only [alen]; omega) (by decide)), ?_⟩
        try rw [nI_clamp (by omega)]
        refine hS _ _ _ _ ?_
        refine And.intro (fun h55 => ?_) (fun h55 => ?_)
        · iterate 4 refine hS _ _ _ _ ?_
          refine ⟨(by first | assumption | exact vp_in_nI (by simp only [alen]; omega) (by decide)), ?_⟩
          try rw [nI_clamp (by omega)]
          iterate 6 refine hS _ _ _ _ ?_
          refine ⟨(by first | assumption | exact vp_in_nI (by simp only [alen]; omega) (by decide)), ?_⟩
          try rw [nI_clamp (by omega)]
          iterate 6 refine hS _ _ _ _ ?_
          refine And.intro (fun _ => ?_) (fun h => absurd h (by decide))
          iterate 3 refine hS _ _ _ _ ?_
          refine And.intro (fun h => absurd h (by decide)) (fun _ => ?_)
          iterate 4 refine hS _ _ _ _ ?_
          refine ⟨(by first | assumption | exact vp_in_nI (by simp only [alen]; omega) (by decide)), ?_⟩
          try rw [nI_clamp (by omega)]
          iterate 2 refine hS _ _ _ _ ?_
          refine ⟨(by first | assumption | exact vp_in_nI (by simp only [alen]; omega) (by decide)), ?_⟩
          try rw [nI_clamp (by omega)]
          iterate 6 refine hS _ _ _ _ ?_
          refine And.intro (fun _ => ?_) (fun h => absurd h (by decide))
          iterate 2 refine hS _ _ _ _ ?_
          refine ⟨(by first | assumption | exact vp_in_nI (by simp only [alen]; omega) (by decide)), ?_⟩
          try rw [nI_clamp (by omega)]
          iterate 2 refine hS _ _ _ _ ?_
          rw [← hM3] at lp
          exact lp
        · exact absurd (nle_lt h55) hn
      · replace h38 := bI_f h38
        exact absurd (isBd_nI hb) h38
theorem m_lay3 (hd : 500 ≤ d) (hC : CN (M 31 0 0)) (hs : s < 5) (hQ : ∀ M2, F61 M M2 → (∀ t, t ≠ s → M2 61 0 0 t = M 61 0 0 t) → (∀ t, t ≠ s → M2 62 0 0 t = M 62 0 0 t) → (∀ t, t ≠ s → M2 63 0 0 t = M 63 0 0 t) → (∀ t q, t ≠ s → q < 24 → M2 64 0 0 (24 * t + q) = M 64 0 0 (24 * t + q)) → (M2 61 0 0 s = 3 ∧ M2 62 0 0 s = k) → Q (some (.inl (M 61 0 0 s))) M2) : Td PR d 208 [.inr (30, 0, 0), .inl (nI s), .inl 3, .inl k] M Q := by
  have hb10 := hC.2.1
  obtain ⟨e, rfl⟩ : ∃ e, d = e + 1 := ⟨d - 1, by omega⟩
  refine td_X10_lay ?_
  intro S hS
  generalize hM3 : mu (mu (mu M 61 0 0 s 3) 62 0 0 s (k)) 63 0 0 s (0) = M3
  have f3 : F61 M M3 := fun k a b c d => by rw [← hM3]; exact (mz_k c).trans ((mz_k b).trans (mz_k a))
  have o61 : ∀ t, t ≠ s → M3 61 0 0 t = M 61 0 0 t := fun t ht => by rw [← hM3]; show mu M 61 0 0 s 3 61 0 0 t = _; rw [upd_mu, upd_ne ht]
  have o62 : ∀ t, t ≠ s → M3 62 0 0 t = M 62 0 0 t := fun t ht => by rw [← hM3]; show mu (mu M 61 0 0 s 3) 62 0 0 s (k) 62 0 0 t = _; rw [upd_mu, upd_ne ht]; rfl
  have o63 : ∀ t, t ≠ s → M3 63 0 0 t = M 63 0 0 t := fun t ht => by rw [← hM3, upd_mu, upd_ne ht]; rfl
  have o64 : M3 64 = M 64 := by rw [← hM3]; rfl
  have e61 : M3 61 0 0 s = 3 := by rw [← hM3]; exact (show mu M 61 0 0 s 3 61 0 0 s = 3 from mz_at)
  have e62 : M3 62 0 0 s = k := by rw [← hM3]; exact (show mu (mu M 61 0 0 s 3) 62 0 0 s (k) 62 0 0 s = k from mz_at)
  have e63 : M3 63 0 0 s = 0 := by rw [← hM3]; exact mz_at
  iterate 2 refine hS _ _ _ _ ?_
  refine sm_isSlot (by omega) ?_
  refine hS _ _ _ _ ?_
  refine And.intro (fun h4 => ?_) (fun h4 => ?_)
  · replace h4 := bI_f h4
    exact absurd (isBd_nI hs) h4
  · replace h4 := bI_t h4
    iterate 4 refine hS _ _ _ _ ?_
    refine sm_in (by omega) ?_
    refine hS _ _ _ _ ?_
    refine And.intro (fun h13 => ?_) (fun h13 => ?_)
    · replace h13 := bI_f h13
      exact absurd ⟨by decide, by decide⟩ h13
    · replace h13 := bI_t h13
      iterate 3 refine hS _ _ _ _ ?_
      refine And.intro (fun _ => ?_) (fun h => absurd h (by decide))
      iterate 3 refine hS _ _ _ _ ?_
      refine And.intro (fun _ => ?_) (fun h => absurd h (by decide))
      iterate 3 refine hS _ _ _ _ ?_
      refine And.intro (fun _ => ?_) (fun h => absurd h (by decide))
      iterate 4 refine hS _ _ _ _ ?_
      refine ⟨(by first | assumption | exact vp_in_nI (by simp only [alen]; omega) (by decide)), ?_⟩
      try rw [nI_clamp (by omega)]
      iterate 6 refine hS _ _ _ _ ?_
      refine ⟨(by first | assumption | exact vp_in_nI (by simp only [alen]; omega) (by decide)), ?_⟩
      try rw [nI_clamp (by omega)]
      iterate 6 refine hS _ _ _ _ ?_
      refine And.intro (fun _ => ?_) (fun h => absurd h (by decide))
      iterate 3 refine hS _ _ _ _ ?_
      refine And.intro (fun _ => ?_) (fun h => absurd h (by decide))
      iterate 2 refine hS _ _ _ _ ?_
      refine ⟨(by first | assumption | exact vp_in_nI (by simp only [alen]; omega) (by decide)), ?_⟩
      try rw [nI_clamp (by omega)]
      iterate 6 refine hS _ _ _ _ ?_
      refine And.intro (fun _ => ?_) (fun h => absurd h (by decide))
      iterate 2 refine hS _ _ _ _ ?_
      refine ⟨(by first | assumption | exact vp_in_nI (by simp only [alen]; omega) (by decide)), ?_⟩
      try rw [nI_clamp (by omega)]
      iterate 5 refine hS _ _ _ _ ?_
      refine And.intro (fun h => absurd h (by decide)) (fun _ => ?_)
      iterate 3 refine hS _ _ _ _ ?_
      refine And.intro (fun _ => ?_) (fun h => absurd h (by decide))
      iterate 2 refine hS _ _ _ _ ?_
      skip
      have fin := hQ M3 f3 o61 o62 o63 (fun t q _ _ => by rw [o64]) ⟨e61, e62⟩
      rw [← hM3] at fin
      exact fin
theorem c_layN (hd : 500 ≤ d) (hI : INV M) (hs : s < 5) (hb : b < 4) (hn : M 16 b 0 0 = -1) (hQ : Q (some (.inl (-1000000011))) M) : Td PR d 102 [.inr (0, 0, 0), .inl (nI s), .inl 2, .inl (nI b)] M Q := by
  have hL := hI.ll
  obtain ⟨e, rfl⟩ : ∃ e, d = e + 1 := ⟨d - 1, by omega⟩
  refine td_X9_lay ?_
  intro S hS
  iterate 2 refine hS _ _ _ _ ?_
  refine sp_isSlot (by omega) ?_
  refine hS _ _ _ _ ?_
  refine And.intro (fun h4 => ?_) (fun h4 => ?_)
  · replace h4 := bI_f h4
    exact absurd (isBd_nI hs) h4
  · replace h4 := bI_t h4
    iterate 2 refine hS _ _ _ _ ?_
    refine And.intro (fun h => absurd h (by decide)) (fun _ => ?_)
    iterate 3 refine hS _ _ _ _ ?_
    refine And.intro (fun _ => ?_) (fun h => absurd h (by decide))
    iterate 3 refine hS _ _ _ _ ?_
    refine And.intro (fun _ => ?_) (fun h => absurd h (by decide))
    iterate 3 refine hS _ _ _ _ ?_
    refine And.intro (fun h => absurd h (by decide)) (fun _ => ?_)
    iterate 2 refine hS _ _ _ _ ?_
    refine sp_isSheet (by omega) ?_
    refine hS _ _ _ _ ?_
    refine And.intro (fun h41 => ?_) (fun h41 => ?_)
    · replace h41 := bI_t h41
      iterate 3 refine hS _ _ _ _ ?_
      refine And.intro (fun h => absurd h (by decide)) (fun _ => ?_)
      iterate 4 refine hS _ _ _ _ ?_
      refine ⟨(by first | assumption | exact vp_in_nI (by simp only [alen]; omega) (by decide)), ?_⟩
      try rw [nI_clamp (by omega)]
      refine hS _ _ _ _ ?_
      refine sp_isMissing (by omega) ?_
      refine hS _ _ _ _ ?_
      refine And.intro (fun h61 => ?_) (fun h61 => ?_)
      · replace h61 := bI_f h61
        exact absurd hn h61
      · replace h61 := bI_t h61
        iterate 2 refine hS _ _ _ _ ?_
        exact hQ
    · replace h41 := bI_f h41
      exact absurd (isBd_nI hb) h41
theorem m_layN (hd : 500 ≤ d) (hC : CN (M 31 0 0)) (hs : s < 5) (hb : b < 4) (hn : M 58 0 0 b < 0) (hQ : Q (some (.inl (-1000000011))) M) : Td PR d 208 [.inr (30, 0, 0), .inl (nI s), .inl 2, .inl (nI b)] M Q := by
  obtain ⟨e, rfl⟩ : ∃ e, d = e + 1 := ⟨d - 1, by omega⟩
  refine td_X10_lay ?_
  intro S hS
  iterate 2 refine hS _ _ _ _ ?_
  refine sm_isSlot (by omega) ?_
  refine hS _ _ _ _ ?_
  refine And.intro (fun h4 => ?_) (fun h4 => ?_)
  · replace h4 := bI_f h4
    exact absurd (isBd_nI hs) h4
  · replace h4 := bI_t h4
    iterate 4 refine hS _ _ _ _ ?_
    refine sm_in (by omega) ?_
    refine hS _ _ _ _ ?_
    refine And.intro (fun h13 => ?_) (fun h13 => ?_)
    · replace h13 := bI_f h13
      exact absurd ⟨by decide, by decide⟩ h13
    · replace h13 := bI_t h13
      iterate 3 refine hS _ _ _ _ ?_
      refine And.intro (fun _ => ?_) (fun h => absurd h (by decide))
      iterate 3 refine hS _ _ _ _ ?_
      refine And.intro (fun h => absurd h (by decide)) (fun _ => ?_)
      iterate 2 refine hS _ _ _ _ ?_
      refine sm_isSheet (by omega) ?_
      refine hS _ _ _ _ ?_
      refine And.intro (fun h38 => ?_) (fun h38 => ?_)
      · replace h38 := bI_t h38
        iterate 3 refine hS _ _ _ _ ?_
        refine And.intro (fun h => absurd h (by decide)) (fun _ => ?_)
        iterate 4 refine hS _ _ _ _ ?_
        refine ⟨(by first | assumption | exact vp_in_nI (by simp only [alen]; omega) (by decide)), ?_⟩
        try rw [nI_clamp (by omega)]
        refine hS _ _ _ _ ?_
        refine And.intro (fun h55 => ?_) (fun h55 => ?_)
        · exact absurd hn (Int32.not_lt.mpr h55)
        · iterate 2 refine hS _ _ _ _ ?_
          exact hQ
      · replace h38 := bI_f h38
        exact absurd (isBd_nI hb) h38
theorem op_lay {a t k : Int32} : OpOK 102 208 [.inl a, .inl t, .inl k] := by
  intro M hI d hd
  have hC := hI.cn
  have hb10 := hC.2.1
  by_cases ok : layOK (M 31 0 0) a t k
  · obtain ⟨⟨s, hs, rfl⟩, ⟨c, hc, rfl⟩, k1, k2⟩ := ok
    obtain ⟨r1, r2, r3, r4, r5⟩ := hI.2.2.2.1 s hs
    have q31 : ∀ M1, FLc s M M1 → M1 31 = M 31 := fun M1 f => funext fun i => f.1 31 i (by omega) (by omega) (by omega)
    have q61 : ∀ M1, FLc s M M1 → M1 61 = M 61 := fun M1 f => funext fun i => f.1 61 i (by omega) (by omega) (by omega)
    have q62 : ∀ M1, FLc s M M1 → M1 62 = M 62 := fun M1 f => funext fun i => f.1 62 i (by omega) (by omega) (by omega)
    have q63 : ∀ M1, FLc s M M1 → M1 63 = M 63 := fun M1 f => funext fun i => f.1 63 i (by omega) (by omega) (by omega)
    have q64 : ∀ M1, FLc s M M1 → M1 64 = M 64 := fun M1 f => funext fun i => f.1 64 i (by omega) (by omega) (by omega)
    have q58 : ∀ M1, FLc s M M1 → M1 58 = M 58 := fun M1 f => funext fun i => f.1 58 i (by omega) (by omega) (by omega)
    have q59 : ∀ M1, FLc s M M1 → M1 59 = M 59 := fun M1 f => funext fun i => f.1 59 i (by omega) (by omega) (by omega)
    have q60 : ∀ M1, FLc s M M1 → M1 60 = M 60 := fun M1 f => funext fun i => f.1 60 i (by omega) (by omega) (by omega)
    have fin : ∀ M1 M2, FLc s M M1 → F61 M1 M2 → (∀ t, t ≠ s → M2 61 0 0 t = M1 61 0 0 t) → (∀ t, t ≠ s → M2 62 0 0 t = M1 62 0 0 t) → (∀ t, t ≠ s → M2 63 0 0 t = M1 63 0 0 t) → (∀ t q, t ≠ s → q < 24 → M2 64 0 0 (24 * t + q) = M1 64 0 0 (24 * t + q)) → SL1 M2 s → INV M2 ∧ Kp M1 M2 ∧ Kp M M1 := by
      intro M1 M2 f1 f2 a b c d e
      exact lay_inv hI hs f1 f2 (fun t ht => by rw [a t ht, q61 M1 f1]) (fun t ht => by rw [b t ht, q62 M1 f1]) (fun t ht => by rw [c t ht, q63 M1 f1]) (fun t q ht hq => by rw [d t q ht hq, q64 M1 f1]) e
    have kp : ∀ M1, FLc s M M1 → Kp M M1 := fun M1 f => ⟨funext fun i => f.1 90 i (by omega) (by omega) (by omega), funext fun i => f.1 91 i (by omega) (by omega) (by omega)⟩
    obtain rfl | rfl | rfl | rfl : c = 0 ∨ c = 1 ∨ c = 2 ∨ c = 3 := by omega
    · refine c_lay0 hd hI hs (fun M1 f1 p1 => ⟨_, rfl, kp M1 f1, ?_⟩)
      refine m_lay0 hd (by rw [q31 M1 f1]; exact hC) hs (fun M2 f2 a b' c d e => ?_)
      have g19 : M2 19 = M1 19 := f2 19 (by decide) (by decide) (by decide) (by decide)
      obtain ⟨x, y, _⟩ := fin M1 M2 f1 f2 a b' c d (by
        unfold SL1
        rw [g19, p1]
        exact ⟨e, ⟨0, by omega, rfl⟩, fun z => absurd z (by decide), fun z => absurd z (by decide), fun z => absurd z (by decide)⟩)
      exact ⟨by rw [q61 M1 f1, r1], x, y⟩
    · obtain ⟨b, hb, rfl⟩ := k1 rfl
      refine c_lay1 hd hI hs hb (fun M1 f1 p1 => ⟨_, rfl, kp M1 f1, ?_⟩)
      refine m_lay1 hd (by rw [q31 M1 f1]; exact hC) hs (by rw [q31 M1 f1]; exact hb) (fun M2 f2 a b' c d e => ?_)
      rw [q31 M1 f1] at e
      have g19 : M2 19 = M1 19 := f2 19 (by decide) (by decide) (by decide) (by decide)
      have g3 : M2 3 = M1 3 := f2 3 (by decide) (by decide) (by decide) (by decide)
      obtain ⟨x, y, _⟩ := fin M1 M2 f1 f2 a b' c d (by
        unfold SL1
        rw [g19, g3, p1.1, p1.2.1, p1.2.2.1, p1.2.2.2.1, p1.2.2.2.2]
        exact ⟨e.1, ⟨1, by omega, rfl⟩, fun _ => ⟨e.2.1, e.2.2⟩, fun z => absurd z (by decide), fun z => absurd z (by decide)⟩)
      exact ⟨by rw [q61 M1 f1, r1], x, y⟩
    · obtain ⟨b, hb, rfl⟩ := k2 rfl
      obtain ⟨w1, w2, w3, w4, w5⟩ := hI.2.2.1 b hb
      by_cases hn : M 16 b 0 0 = -1
      · refine c_layN hd hI hs hb hn ⟨_, rfl, ⟨rfl, rfl⟩, ?_⟩
        refine m_layN hd hC hs hb (by rw [w1, hn]; decide) ⟨rfl, hI, ⟨rfl, rfl⟩⟩
      · refine c_lay2 hd hI hs hb hn (fun M1 f1 p1 => ⟨_, rfl, kp M1 f1, ?_⟩)
        have hn2 : ¬ M 58 0 0 b < 0 := by
          rw [w1]
          rcases w3 with z | z | z
          · exact absurd z hn
          · rw [z]; decide
          · rw [z]; decide
        refine m_lay2 hd (by rw [q31 M1 f1]; exact hC) hs hb (by rw [q58 M1 f1]; exact hn2) (fun M2 f2 a b' c d e => ?_)
        rw [q59 M1 f1, q60 M1 f1] at e
        have g19 : M2 19 = M1 19 := f2 19 (by decide) (by decide) (by decide) (by decide)
        have g16 : M2 16 = M1 16 := f2 16 (by decide) (by decide) (by decide) (by decide)
        have g17 : M2 17 = M1 17 := f2 17 (by decide) (by decide) (by decide) (by decide)
        obtain ⟨x, y, _⟩ := fin M1 M2 f1 f2 a b' c d (by
          unfold SL1
          rw [g19, g16, g17, p1.1, p1.2.1]
          exact ⟨e.1, ⟨2, by omega, rfl⟩, fun z => absurd z (by decide), fun _ => ⟨e.2.1.trans w2, w4, fun q hq => by rw [e.2.2 q hq, p1.2.2 q hq, w5 q hq]⟩, fun z => absurd z (by decide)⟩)
        exact ⟨by rw [q61 M1 f1, r1], x, y⟩
    · refine c_lay3 hd hI hs (fun M1 f1 p1 => ⟨_, rfl, kp M1 f1, ?_⟩)
      refine m_lay3 hd (by rw [q31 M1 f1]; exact hC) hs (fun M2 f2 a b' c d e => ?_)
      have g19 : M2 19 = M1 19 := f2 19 (by decide) (by decide) (by decide) (by decide)
      obtain ⟨x, y, _⟩ := fin M1 M2 f1 f2 a b' c d (by
        unfold SL1
        rw [g19, p1.1, p1.2]
        exact ⟨e.1, ⟨3, by omega, rfl⟩, fun z => absurd z (by decide), fun z => absurd z (by decide), fun z => e.2⟩)
      exact ⟨by rw [q61 M1 f1, r1], x, y⟩
  · refine c_layB hd hI ok ⟨_, rfl, ⟨rfl, rfl⟩, ?_⟩
    exact m_layB hd hC ok ⟨rfl, hI, ⟨rfl, rfl⟩⟩
end W30b
