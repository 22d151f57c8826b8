-- 68.pure39: strings
def sB (i k : Nat) : Int32 := (sByt.getD i []).getD k 0
/-- the first place of c in a string, from k on, of m; -1: none -/
def ixF (i : Nat) (c : Int32) : Nat → Nat → Int32
  | _, 0 => -1
  | k, m + 1 => if sB i k = c then nI k else ixF i c (k + 1) m
theorem i2b_eq : ∀ x, x < 256 → ∀ i, i < 11 → ∀ k, k < sLen i → ((nI x).toInt8.toInt32 = sB i k ↔ nI x = sB i k) := by decide +kernel
theorem i2c_sB : ∀ i, i < 11 → ∀ k, k < sLen i → ((sB i k &&& 255).toUInt32 % 65536).toInt32 = sB i k ∧ narrow .char (.int (sB i k)) = .int (sB i k) := by decide +kernel
theorem i2c_bd {x : Int32} (h : isBd 256 x) : (x.toUInt32 % 65536).toInt32 = x := by
  obtain ⟨j, hj, rfl⟩ := h
  have : ∀ j, j < 256 → ((nI j).toUInt32 % 65536).toInt32 = nI j := by decide +kernel
  exact this j hj
theorem sLen_lt : ∀ i, i < 11 → sLen i < 8 := by decide +kernel
section W39
variable {d i k : Nat} {M : Mem} {Q : PQ}
theorem sp_coder_7d493 (hd : 1 ≤ d) (hQ : Q (some (.inl 0)) M) : Td PR d 222 [.inr (80, i, 0)] M Q := by
  obtain ⟨e, rfl⟩ : ∃ e, d = e + 1 := ⟨d - 1, by omega⟩
  refine td_J0_coder_7d493 ?_
  intro S hS
  iterate 2 refine hS _ _ _ _ ?_
  refine And.intro (fun h3 => ?_) (fun h3 => ?_)
  · exact absurd h3 (by decide)
  · iterate 4 refine hS _ _ _ _ ?_
    refine ⟨rfl, ?_⟩
    exact hQ
theorem sp_isLatin1_aae02 (hd : 1 ≤ d) (hQ : Q (some (.inl 1)) M) : Td PR d 223 [.inr (80, i, 0)] M Q := by
  obtain ⟨e, rfl⟩ : ∃ e, d = e + 1 := ⟨d - 1, by omega⟩
  refine td_J0_isLatin1_aae02 ?_
  intro S hS
  iterate 2 refine hS _ _ _ _ ?_
  refine And.intro (fun h3 => ?_) (fun h3 => ?_)
  · exact absurd h3 (by decide)
  · iterate 3 refine hS _ _ _ _ ?_
    refine And.intro (fun h10 => ?_) (fun h10 => ?_)
    · exact (h10 rfl).elim
    · iterate 3 refine hS _ _ _ _ ?_
      refine ⟨rfl, ?_⟩
      exact hQ
theorem sp_length_8abf5 (hd : 2 ≤ d) (hQ : Q (some (.inl (nI (sLen i)))) M) : Td PR d 218 [.inr (80, i, 0)] M Q := by
  obtain ⟨e, rfl⟩ : ∃ e, d = e + 1 := ⟨d - 1, by omega⟩
  refine td_J0_length_8abf5 ?_
  intro S hS
  iterate 5 refine hS _ _ _ _ ?_
  refine sp_coder_7d493 (by omega) ?_
  iterate 2 refine hS _ _ _ _ ?_
  refine qv hQ ?_
  show _ = nI (sLen i) >>> (0 &&& 31)
  rw [show (0 : Int32) &&& 31 = 0 from by decide]
  exact (Int32.shiftRight_zero).symm
theorem sp_checkIndex_8e157 {m : Nat} (hd : 1 ≤ d) (hk : k < m) (hm : m < 100) (hQ : Q (some (.inl (nI k))) M) : Td PR d 229 [.inl (nI k), .inl (nI m), .inr (82, 0, 0)] M Q := by
  obtain ⟨e, rfl⟩ : ∃ e, d = e + 1 := ⟨d - 1, by omega⟩
  refine td_J3_checkIndex_8e157 ?_
  intro S hS
  iterate 2 refine hS _ _ _ _ ?_
  refine And.intro (fun h1 => ?_) (fun h1 => ?_)
  · exact absurd h1 (nI_pos (by omega))
  · iterate 3 refine hS _ _ _ _ ?_
    refine And.intro (fun h6 => ?_) (fun h6 => ?_)
    · iterate 2 refine hS _ _ _ _ ?_
      exact hQ
    · exact absurd (nI_lt hk (by omega)) h6
theorem sp_checkIndex_df160 {m : Nat} (hd : 2 ≤ d) (hk : k < m) (hm : m < 100) (hQ : Q none M) : Td PR d 224 [.inl (nI k), .inl (nI m)] M Q := by
  obtain ⟨e, rfl⟩ : ∃ e, d = e + 1 := ⟨d - 1, by omega⟩
  refine td_J0_checkIndex_df160 ?_
  intro S hS
  iterate 4 refine hS _ _ _ _ ?_
  refine sp_checkIndex_8e157 (by omega) hk hm ?_
  iterate 2 refine hS _ _ _ _ ?_
  exact hQ
theorem sp_charAt_3b067 (hd : 3 ≤ d) (hi : i < 11) (hk : k < sLen i) (hQ : Q (some (.inl (sB i k))) M) : Td PR d 225 [.inr (81, i, 0), .inl (nI k)] M Q := by
  have hl := sLen_lt i hi
  obtain ⟨ec, en⟩ := i2c_sB i hi k hk
  obtain ⟨e, rfl⟩ : ∃ e, d = e + 1 := ⟨d - 1, by omega⟩
  refine td_J1_charAt_3b067 ?_
  intro S hS
  iterate 4 refine hS _ _ _ _ ?_
  refine sp_checkIndex_df160 (m := sLen i) (by omega) hk (by omega) ?_
  iterate 3 refine hS _ _ _ _ ?_
  refine ⟨vp_in_nI hk (by omega), ?_⟩
  rw [nI_clamp (by omega)]
  iterate 4 refine hS _ _ _ _ ?_
  refine ⟨(by show narrow .char (.int ((sB i k &&& 255).toUInt32 % 65536).toInt32) = .int ((sB i k &&& 255).toUInt32 % 65536).toInt32; rw [ec]; exact en), ?_⟩
  exact qv hQ ec.symm
theorem sp_charAt_5068e (hd : 4 ≤ d) (hi : i < 11) (hk : k < sLen i) (hQ : Q (some (.inl (sB i k))) M) : Td PR d 219 [.inr (80, i, 0), .inl (nI k)] M Q := by
  obtain ⟨ec, en⟩ := i2c_sB i hi k hk
  obtain ⟨e, rfl⟩ : ∃ e, d = e + 1 := ⟨d - 1, by omega⟩
  refine td_J0_charAt_5068e ?_
  intro S hS
  iterate 2 refine hS _ _ _ _ ?_
  refine sp_isLatin1_aae02 (by omega) ?_
  refine hS _ _ _ _ ?_
  refine And.intro (fun h4 => ?_) (fun h4 => ?_)
  · exact absurd h4 (by decide)
  · iterate 4 refine hS _ _ _ _ ?_
    refine sp_charAt_3b067 (by omega) hi hk ?_
    refine hS _ _ _ _ ?_
    refine ⟨en, ?_⟩
    exact hQ
theorem sp_canEncode_9a6ad {x : Int32} (hd : 1 ≤ d) (hx : isBd 256 x) (hQ : Q (some (.inl 1)) M) : Td PR d 226 [.inl x] M Q := by
  obtain ⟨j, hj, rfl⟩ := hx
  obtain ⟨e, rfl⟩ : ∃ e, d = e + 1 := ⟨d - 1, by omega⟩
  refine td_J1_canEncode_9a6ad ?_
  intro S hS
  iterate 2 refine hS _ _ _ _ ?_
  refine And.intro (fun h1 => ?_) (fun h1 => ?_)
  · exact absurd h1 (nI_pos (by omega))
  · iterate 3 refine hS _ _ _ _ ?_
    refine And.intro (fun h8 => ?_) (fun h8 => ?_)
    · exact absurd h8 (nI_nlt (a := 255) (b := j) (by omega) (by omega))
    · iterate 3 refine hS _ _ _ _ ?_
      refine ⟨rfl, ?_⟩
      exact hQ
theorem sp_indexOfChar_4cfef {x : Int32} (hd : 1 ≤ d) (hi : i < 11) (hx : isBd 256 x) (hQ : Q (some (.inl (ixF i x 0 (sLen i)))) M) : Td PR d 228 [.inr (81, i, 0), .inl x, .inl 0, .inl (nI (sLen i))] M Q := by
  obtain ⟨j, hj, rfl⟩ := hx
  have hl := sLen_lt i hi
  generalize hR : ixF i (nI j) 0 (sLen i) = R at hQ
  obtain ⟨e, rfl⟩ : ∃ e, d = e + 1 := ⟨d - 1, by omega⟩
  refine td_J1_indexOfChar_4cfef ?_
  intro S hS
  have lp : ∀ o, o = (nI j).toInt8.toInt32 → S 7 [some (.inr (81, i, 0)), some (.inl (nI j)), some (.inl 0), some (.inl (nI (sLen i))), some (.inl o), some (.inl (nI 0))] [] M := by
    intro o ho
    refine lp_up (T := fun k => ixF i (nI j) k (sLen i - k) = R → S 7 [some (.inr (81, i, 0)), some (.inl (nI j)), some (.inl 0), some (.inl (nI (sLen i))), some (.inl o), some (.inl (nI k))] [] M) (N := sLen i) ?_ ?_ 0 (Nat.zero_le _) hR
    · intro a4
      rw [Nat.sub_self] at a4
      iterate 3 refine hS _ _ _ _ ?_
      refine And.intro (fun h10 => ?_) (fun h10 => ?_)
      · iterate 2 refine hS _ _ _ _ ?_
        exact qv hQ a4.symm
      · exact (lp_x rfl h10).elim
    · intro k hk ih a4
      rw [show sLen i - k = (sLen i - (k + 1)) + 1 by omega] at a4
      rw [nI_succ] at ih
      have eb := i2b_eq j hj i hi k hk
      iterate 3 refine hS _ _ _ _ ?_
      refine And.intro (fun h10 => ?_) (fun h10 => ?_)
      · exact (lp_s rfl hk (by omega) h10).elim
      · iterate 3 refine hS _ _ _ _ ?_
        refine ⟨vp_in_nI hk (by omega), ?_⟩
        rw [nI_clamp (by omega)]
        iterate 2 refine hS _ _ _ _ ?_
        refine And.intro (fun h19 => ?_) (fun h19 => ?_)
        · have g : ¬ sB i k = nI j := fun z => h19 (by rw [ho]; exact (eb.mpr z.symm).symm)
          have a5 : ixF i (nI j) (k + 1) (sLen i - (k + 1)) = R := by unfold ixF at a4; rw [if_neg g] at a4; exact a4
          iterate 2 refine hS _ _ _ _ ?_
          exact ih a5
        · have g : sB i k = nI j := (eb.mp (by rw [← ho]; exact h19.symm)).symm
          have a5 : nI k = R := by unfold ixF at a4; rw [if_pos g] at a4; exact a4
          iterate 2 refine hS _ _ _ _ ?_
          exact qv hQ a5.symm
  iterate 5 refine hS _ _ _ _ ?_
  exact lp _ rfl
theorem sp_indexOf_4cfef {x : Int32} (hd : 2 ≤ d) (hi : i < 11) (hx : isBd 256 x) (hQ : Q (some (.inl (ixF i x 0 (sLen i)))) M) : Td PR d 227 [.inr (81, i, 0), .inl x, .inl 0, .inl (nI (sLen i))] M Q := by
  have hl := sLen_lt i hi
  have h1 : 1 ≤ sLen i := (by decide +kernel : ∀ i, i < 11 → 1 ≤ sLen i) i hi
  obtain ⟨e, rfl⟩ : ∃ e, d = e + 1 := ⟨d - 1, by omega⟩
  refine td_J1_indexOf_4cfef ?_
  intro S hS
  iterate 2 refine hS _ _ _ _ ?_
  refine sp_canEncode_9a6ad (by omega) hx ?_
  refine hS _ _ _ _ ?_
  refine And.intro (fun h4 => ?_) (fun h4 => ?_)
  · iterate 3 refine hS _ _ _ _ ?_
    iterate 5 refine hS _ _ _ _ ?_
    iterate 4 refine hS _ _ _ _ ?_
    refine And.intro (fun h24 => ?_) (fun h24 => ?_)
    · iterate 5 refine hS _ _ _ _ ?_
      rw [show (if nI (sLen i) < nI (sLen i) then nI (sLen i) else nI (sLen i)) = nI (sLen i) from if_neg (nI_nlt (by omega) (by omega))]
      refine sp_indexOfChar_4cfef (by omega) hi hx ?_
      refine hS _ _ _ _ ?_
      exact hQ
    · skip
      have e : (if nI (sLen i) < nI (sLen i) then nI (sLen i) else nI (sLen i)) = nI (sLen i) := if_neg (nI_nlt (by omega) (by omega))
      exact absurd (show (0 : Int32) < (if nI (sLen i) < nI (sLen i) then nI (sLen i) else nI (sLen i)) by rw [e]; exact nI_lt (a := 0) (by omega) (by omega)) h24
  · exact absurd h4 (by decide)
theorem sp_indexOf_7cf53 {x : Int32} (hd : 3 ≤ d) (hi : i < 11) (hx : isBd 256 x) (hQ : Q (some (.inl (ixF i x 0 (sLen i)))) M) : Td PR d 221 [.inr (80, i, 0), .inl x, .inl 0] M Q := by
  obtain ⟨e, rfl⟩ : ∃ e, d = e + 1 := ⟨d - 1, by omega⟩
  refine td_J0_indexOf_7cf53 ?_
  intro S hS
  iterate 2 refine hS _ _ _ _ ?_
  refine sp_isLatin1_aae02 (by omega) ?_
  refine hS _ _ _ _ ?_
  refine And.intro (fun h4 => ?_) (fun h4 => ?_)
  · exact absurd h4 (by decide)
  · iterate 6 refine hS _ _ _ _ ?_
    refine sp_length_8abf5 (by omega) ?_
    refine hS _ _ _ _ ?_
    refine sp_indexOf_4cfef (by omega) hi hx ?_
    iterate 2 refine hS _ _ _ _ ?_
    exact hQ
theorem sp_indexOf_0f7a4 {x : Int32} (hd : 4 ≤ d) (hi : i < 11) (hx : isBd 256 x) (hQ : Q (some (.inl (ixF i x 0 (sLen i)))) M) : Td PR d 220 [.inr (80, i, 0), .inl x] M Q := by
  obtain ⟨e, rfl⟩ : ∃ e, d = e + 1 := ⟨d - 1, by omega⟩
  refine td_J0_indexOf_0f7a4 ?_
  intro S hS
  iterate 4 refine hS _ _ _ _ ?_
  refine sp_indexOf_7cf53 (by omega) hi hx ?_
  refine hS _ _ _ _ ?_
  exact hQ
end W39
