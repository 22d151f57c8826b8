-- 68.pure39: strings
def sB (i k : Nat) : Int32 := (sByt.getD i []).getD k 0
/-- the first place of c in a string, from k on, of m; -1: none -/
def ixF (i : Nat) (c : Int32) : Nat → Nat → Int32
  | _, 0 => -1
  | k, m + 1 => if sB i k = c then nI k else ixF i c (k + 1) m
theorem i2b_eq : ∀ x, x < 256 → ∀ i, i < 11 → ∀ k, k < sLen i → ((nI x).toInt8.toInt32 = sB i k ↔ nI x = sB i k) := by decide +kernel
theorem i2c_sB : ∀ i, i < 11 → ∀ k, k < sLen i → ((sB i k &&& 255).toUInt32 % 65536).toInt32 = sB i k ∧ narrow .char (.int (sB i k)) = .int (sB i k) := by decide +kernel
theorem i2c_bd {x : Int32} (h : isBd 256 x) : (x.toUInt32 % 65536).toInt32 = x := by
  obtain ⟨j, hj, rfl⟩ := h
  have : ∀ j, j < 256 → ((nI j).toUInt32 % 65536).toInt32 = nI j := by decide +kernel
  exact this j hj
theorem sLen_lt : ∀ i, i < 11 → sLen i < 8 := by decide +kernel
section W39
variable {d i k : Nat} {M : Mem} {Q : PQ}
theorem sp_coder_7d493 (hd : 1 ≤ d) (hQ : Q (some (.inl 0)) M) : Td PR d 222 [.inr (80, i, 0)] M Q := by
  obtain ⟨e, rfl⟩ : ∃ e, d = e + 1 := ⟨d - 1, by omega⟩
  refine td_J0_coder_7d493 ?_
  intro S hS
  iterate 2 refine hS _ _ _ _ ?_
  refine And.intro (fun h3 => ?_) (fun h3 => ?_)
  · exact absurd h3 (by decide)
  · iterate 4 refine hS _ _ _ _ ?_
    refine ⟨rfl, ?_⟩
    exact hQ
theorem sp_isLatin1_aae02 (hd : 1 ≤ d) (hQ : Q (some (.inl 1)) M) : Td PR d 223 [.inr (80, i, 0)] M Q := by
  obtain ⟨e, rfl⟩ : ∃ e, d = e + 1 := ⟨d - 1, by omega⟩
  refine td_J0_isLatin1_aae02 ?_
  intro S hS
  iterate 2 refine hS _ _ _ _ ?_
  refine And.intro (fun h3 => ?_) (fun h3 => ?_)
  · exact absurd h3 (by decide)
  · iterate 3 refine hS _ _ _ _ ?_
    refine And.intro (fun h10 => ?_) (fun h10 => ?_)
    · exact (h10 rfl).elim
    · iterate 3 refine hS _ _ _ _ ?_
      refine ⟨rfl, ?_⟩
      exact hQ
theorem sp_length_8abf5 (hd : 2 ≤ d) (hQ : Q (some (.inl (nI (sLen i)))) M) : Td PR d 218 [.inr (80, i, 0)] M Q := by
  obtain ⟨e, rfl⟩ : ∃ e, d = e + 1 := ⟨d - 1, by omega⟩
  refine td_J0_length_8abf5 ?_
  intro S hS
  iterate 5 refine hS _ _ _ _ ?_
  refine sp_coder_7d493 (by omega) ?_
  iterate 2 refine hS _ _ _ _ ?_
  refine qv hQ ?_
  show _ = nI (sLen i) >>> (0 &&& 31)
  rw [show (0 : Int32) &&& 31 = 0 from by decide]
  exact (Int32.shiftRight_zero).symm
theorem sp_checkIndex_8e157 {m : Nat} (hd : 1 ≤ d) (hk : k < m) (hm : m < 100) (hQ : Q (some (.inl (nI k))) M) : Td PR d 229 [.inl (nI k), .inl (nI m), .inr (82, 0, 0)] M Q := by
  obtain ⟨e, rfl⟩ : ∃ e, d = e + 1 := ⟨d - 1, by omega⟩
  refine td_J3_checkIndex_8e157 ?_
  intro S hS
  iterate 2 refine hS _ _ _ _ ?_
  refine And.intro (fun h1 => ?_) (fun h1 => ?_)
  · exact absurd h1 (nI_pos (by omega))
  · iterate 3 refine hS _ _ _ _ ?_
    refine And.intro (fun h6 => ?_) (fun h6 => ?_)
    · iterate 2 refine hS _ _ _ _ ?_
      exact hQ
    · exact absurd (nI_lt hk (by omega)) h6
theorem sp_checkIndex_df160 {m : Nat} (hd : 2 ≤ d) (hk : k < m) (hm : m < 100) (hQ : Q none M) : Td PR d 224 [.inl (nI k), .inl (nI m)] M Q := by
  obtain ⟨e, rfl⟩ : ∃ e, d = e + 1 := ⟨d - 1, by omega⟩
  refine td_J0_checkIndex_df160 ?_
  intro S hS
  iterate 4 refine hS _ _ _ _ ?_
  refine sp_checkIndex_8e157 (by omega) hk hm ?_
  iterate 2 refine hS _ _ _ _ ?_
  exact hQ
end W39
