-- 76.pure47: the class reads a piece
/-- what reading a text with draft x touches in the class -/
def FX (M0 : Mem) (x : Nat) (M : Mem) : Prop := (∀ k, k ≠ 9 → k ≠ 10 → k ≠ 11 → M k = M0 k) ∧ (∀ i, i ≠ x → M 9 i = M0 9 i ∧ M 10 i = M0 10 i) ∧ ∀ j, j ≠ 2 → j ≠ 3 → j ≠ 4 → j ≠ 5 → M 11 0 0 j = M0 11 0 0 j
/-- the class stands at T, with a draft x of the codes C -/
def CSt (M0 : Mem) (n : Nat) (f : FA) (ky x : Nat) (M : Mem) (T : TK) (C : List Int32) : Prop := CT M n f T ∧ M 11 0 0 6 = nI x ∧ M 9 x 0 0 = nI ky ∧ M 9 x 0 2 = nI C.length ∧ M 9 x 0 3 = nI (lvN C) ∧ (∀ k, k < C.length → M 10 x 0 k = phi (C.getD k 0)) ∧ FX M0 x M
def CPs (M0 : Mem) (n : Nat) (f : FA) (ky x : Nat) (M : Mem) (b : Bool) (T : TK) (C : List Int32) : Prop := FX M0 x M ∧ CT M n f T ∧ (b = true → CSt M0 n f ky x M T C)
theorem CT.cg {M M1 : Mem} {n : Nat} {f : FA} {T : TK} (h : CT M n f T) (h11 : M1 11 0 0 = M 11 0 0) (h12 : M1 12 = M 12) : CT M1 n f T := by
  unfold CT
  rw [h11, h12]
  exact h
section W47
variable {M0 M : Mem} {n ky x : Nat} {f : FA} {T : TK} {C : List Int32}
theorem CSt.go {M1 : Mem} {T1 : TK} (h : CSt M0 n f ky x M T C) (g : F11 M M1) (t : CT M1 n f T1) : CSt M0 n f ky x M1 T1 C := by
  obtain ⟨-, a, b, c, d, e, i, j, k⟩ := h
  refine ⟨t, (g.2 6 (by decide) (by decide) (by decide) (by decide)).trans a, ?_, ?_, ?_, ?_, ?_, ?_, ?_⟩
  · rw [g.1 9 (by decide)]; exact b
  · rw [g.1 9 (by decide)]; exact c
  · rw [g.1 9 (by decide)]; exact d
  · rw [g.1 10 (by decide)]; exact e
  · intro k h1 h2 h3; rw [g.1 k h3]; exact i k h1 h2 h3
  · intro i hi; rw [g.1 9 (by decide), g.1 10 (by decide)]; exact j i hi
  · intro q h1 h2 h3 h4; rw [g.2 q h1 h2 h3 h4]; exact k q h1 h2 h3 h4
theorem CSt.ps {b : Bool} (h : CSt M0 n f ky x M T C) : CPs M0 n f ky x M b T C := ⟨h.2.2.2.2.2.2, h.1, fun _ => h⟩
theorem getD_l {C : List Int32} {c : Int32} : (C ++ [c]).getD C.length 0 = c := by
  rw [List.getD_eq_getElem?_getD, List.getElem?_append_right (Nat.le_refl _), Nat.sub_self]
  rfl
theorem getD_a {C : List Int32} {c : Int32} {k : Nat} (h : k < C.length) : (C ++ [c]).getD k 0 = C.getD k 0 := by
  rw [List.getD_eq_getElem?_getD, List.getD_eq_getElem?_getD, List.getElem?_append_left h]
theorem CSt.sign {c v : Int32} (h : CSt M0 n f ky x M T C) (hl : lvN (C ++ [c]) = lvN C) (hv : v = phi c) : CSt M0 n f ky x (mu (mu M 10 x 0 C.length v) 9 x 0 2 (nI (C.length + 1))) T (C ++ [c]) := by
  obtain ⟨t, a, b, c1, d, e, i, j, k⟩ := h
  refine ⟨t.cg (by rw [mz_k (by decide), mz_k (by decide)]) (by rw [mz_k (by decide), mz_k (by decide)]), ?_, ?_, ?_, ?_, ?_, ?_, ?_, ?_⟩
  · rw [mz_k (by decide), mz_k (by decide)]; exact a
  · rw [mz_sl (by decide), mz_k (by decide)]; exact b
  · rw [mz_at, List.length_append, List.length_singleton]
  · rw [mz_sl (by decide), mz_k (by decide), hl]; exact d
  · intro q hq
    rw [List.length_append, List.length_singleton] at hq
    rw [mz_k (by decide)]
    by_cases z : q = C.length
    · subst z; rw [mz_at, getD_l]; exact hv
    · rw [mz_sl z, getD_a (by omega)]; exact e q (by omega)
  · intro q h1 h2 h3; rw [mz_k h1, mz_k h2]; exact i q h1 h2 h3
  · intro q hq
    constructor
    · rw [← (j q hq).1]; funext r; rw [mz_ne (by omega), mz_k (by decide)]
    · rw [← (j q hq).2, mz_k (by decide)]; funext r; rw [mz_ne (by omega)]
  · intro q h1 h2 h3 h4; rw [mz_k (by decide), mz_k (by decide)]; exact k q h1 h2 h3 h4
theorem CSt.leaf {c v : Int32} (h : CSt M0 n f ky x M T C) (hl : lvN (C ++ [c]) = lvN C + 1) (hv : v = phi c) : CSt M0 n f ky x (mu (mu (mu M 9 x 0 3 (nI (lvN C + 1))) 10 x 0 C.length v) 9 x 0 2 (nI (C.length + 1))) T (C ++ [c]) := by
  obtain ⟨t, a, b, c1, d, e, i, j, k⟩ := h
  refine ⟨t.cg (by rw [mz_k (by decide), mz_k (by decide), mz_k (by decide)]) (by rw [mz_k (by decide), mz_k (by decide), mz_k (by decide)]), ?_, ?_, ?_, ?_, ?_, ?_, ?_, ?_⟩
  · rw [mz_k (by decide), mz_k (by decide), mz_k (by decide)]; exact a
  · rw [mz_sl (by decide), mz_k (by decide), mz_sl (by decide)]; exact b
  · rw [mz_at, List.length_append, List.length_singleton]
  · rw [mz_sl (by decide), mz_k (by decide), mz_at, hl]
  · intro q hq
    rw [List.length_append, List.length_singleton] at hq
    rw [mz_k (by decide)]
    by_cases z : q = C.length
    · subst z; rw [mz_at, getD_l]; exact hv
    · rw [mz_sl z, mz_k (by decide), getD_a (by omega)]; exact e q (by omega)
  · intro q h1 h2 h3; rw [mz_k h1, mz_k h2, mz_k h1]; exact i q h1 h2 h3
  · intro q hq
    constructor
    · rw [← (j q hq).1]; funext r; rw [mz_ne (by omega), mz_k (by decide), mz_ne (by omega)]
    · rw [← (j q hq).2, mz_k (by decide)]; funext r; rw [mz_ne (by omega), mz_k (by decide)]
  · intro q h1 h2 h3 h4; rw [mz_k (by decide), mz_k (by decide), mz_k (by decide)]; exact k q h1 h2 h3 h4
theorem phi_bd : ∀ {c : Int32}, isBd 10000 c → phi c = c := by
  rintro c ⟨j, hj, rfl⟩
  unfold phi
  rw [if_pos (show (0 : Int32) ≤ nI j from nI_le (a := 0) (Nat.zero_le j) (by omega)), if_pos (show nI j < 10000 from nI_lt (b := 10000) hj (by decide))]
theorem phi_nm : ∀ q, q < 3 → phi (10000 + nI q) = -1 - nI q := by decide
theorem phi_m10 : phi (-10) = - 33 := by decide
theorem lv_m10 {C : List Int32} : lvN (C ++ [-10]) = lvN C := lvN_neg (w := 10) (by decide) (by decide)
end W47
theorem gfv_dr {M : Mem} {x : Nat} (h : (M 11 0 0 6).toNatClampNeg = x) : gfv M 11 0 0 6 = .inr (9, x, 0) := by
  subst h
  rfl
section W47b
variable {d n ky x : Nat} {M0 M : Mem} {Q : PQ} {f : FA} {T : TK} {C : List Int32}
theorem sp_readsName (hd : 7 ≤ d) (hn : n ≤ 96) (hx : x < 16) (hk : ky < 3) (hb : ∀ i, i < n → isBd 256 (f i)) (hT : TO n f T) (hM : CSt M0 n f ky x M T C) (h2 : T.2.2.1 = 2) (hC : C.length ≤ T.1) (k1 : ¬ nmF T ky < 0 → ∀ M1, CSt M0 n f ky x M1 (nt f n T) (C ++ [10000 + nmF T ky]) → Q (some (.inl 1)) M1) (k0 : nmF T ky < 0 → Q (some (.inl 0)) M) : Td PR d 47 [.inr (11, 0, 0)] M Q := by
  have hlt := hT.lt (by omega)
  have hdr : (M 11 0 0 6).toNatClampNeg < 16 := by rw [hM.2.1, nI_clamp (by omega)]; exact hx
  have hdx : (M 11 0 0 6).toNatClampNeg = x := by rw [hM.2.1, nI_clamp (by omega)]
  obtain ⟨e, rfl⟩ : ∃ e, d = e + 1 := ⟨d - 1, by omega⟩
  refine td_X4_readsName ?_
  intro S hS
  iterate 2 refine hS _ _ _ _ ?_
  refine sp_nameHere (n := n) (f := f) (T := T) (x := x) (ky := ky) (by omega) hn hb hM.1 hT.1 hx hM.2.1 hk hM.2.2.1 ?_
  iterate 3 refine hS _ _ _ _ ?_
  refine And.intro (fun h6 => ?_) (fun h6 => ?_)
  · have h6' : ¬ nmF T ky < 0 := Int32.not_lt.mpr h6
    obtain ⟨q, hq, eq, -⟩ := nmF_mem hk h6'
    have hq3 : q < 3 := by revert hq; split <;> (intro hq; omega)
    have hbd : isBd 10003 (10000 + nmF T ky) := ⟨10000 + q, by omega, by rw [eq]; exact nI_add 10000 q⟩
    have hph : -1 - nmF T ky = phi (10000 + nmF T ky) := by rw [eq]; exact (phi_nm q hq3).symm
    iterate 2 refine hS _ _ _ _ ?_
    refine ⟨by assumption, ?_⟩
    iterate 4 refine hS _ _ _ _ ?_
    rw [gfv_dr hdx]
    refine sp_addLeaf (by omega) (by omega) hM.2.2.2.1 hM.2.2.2.2.1 ?_
    have hM1 := hM.leaf (lvN_pos hbd (by decide)) hph
    iterate 2 refine hS _ _ _ _ ?_
    refine sp_goOn (n := n) (f := f) (T := T) (by omega) hn hT.1.2.1 hT.1.2.2.1 hM1.1 (fun M2 g1 g2 => ?_)
    iterate 2 refine hS _ _ _ _ ?_
    refine ⟨rfl, ?_⟩
    exact k1 h6' M2 (hM1.go g1 g2)
  · iterate 2 refine hS _ _ _ _ ?_
    refine ⟨rfl, ?_⟩
    exact k0 (Int32.not_le.mp h6)
theorem sp_readsNegated {b : Bool} {T1 : TK} {ps : List Int32} {op ng : Nat} (hd : 7 ≤ d) (hn : n ≤ 96) (hx : x < 16) (hT : TO n f T) (hM : CSt M0 n f ky x M T C) (h1 : T.2.2.1 = 1) (hC : C.length ≤ T.1) (hl : b = true → ps.length + (nt f n T).1 ≤ T1.1 ∧ T1.1 ≤ n)
    (hp : ∀ e, d = e + 1 → ∀ M C Q, CSt M0 n f ky x M (nt f n T) C → C.length ≤ (nt f n T).1 → (∀ M1, CPs M0 n f ky x M1 b T1 (C ++ ps) → Q (some (.inl (bI (b = true)))) M1) → Td PR e 46 [.inr (11, 0, 0), .inl (nI op), .inl (nI ng)] M Q)
    (hQ : ∀ M1, CPs M0 n f ky x M1 b T1 (C ++ (ps ++ [-10])) → Q (some (.inl (bI (b = true)))) M1) : Td PR d 48 [.inr (11, 0, 0), .inl (nI op), .inl (nI ng)] M Q := by
  have hlt := hT.lt (by omega)
  have hnt := hT.nt
  obtain ⟨e, rfl⟩ : ∃ e, d = e + 1 := ⟨d - 1, by omega⟩
  refine td_X4_readsNegated ?_
  intro S hS
  iterate 2 refine hS _ _ _ _ ?_
  refine sp_goOn (n := n) (f := f) (T := T) (by omega) hn hT.1.2.1 hT.1.2.2.1 hM.1 (fun M1 g1 g2 => ?_)
  iterate 4 refine hS _ _ _ _ ?_
  refine hp e rfl M1 C _ (hM.go g1 g2) (by omega) (fun M2 c2 => ?_)
  refine hS _ _ _ _ ?_
  refine And.intro (fun h10 => ?_) (fun h10 => ?_)
  · replace h10 := bI_t h10
    have s2 := c2.2.2 h10
    obtain ⟨hl1, hl2⟩ := hl h10
    have hdr : (M2 11 0 0 6).toNatClampNeg < 16 := by rw [s2.2.1, nI_clamp (by omega)]; exact hx
    have hdx : (M2 11 0 0 6).toNatClampNeg = x := by rw [s2.2.1, nI_clamp (by omega)]
    iterate 2 refine hS _ _ _ _ ?_
    refine ⟨by assumption, ?_⟩
    iterate 2 refine hS _ _ _ _ ?_
    rw [gfv_dr hdx]
    refine sp_addSign (by omega) (by rw [List.length_append]; omega) s2.2.2.2.1 ?_
    iterate 2 refine hS _ _ _ _ ?_
    refine ⟨rfl, ?_⟩
    have s3 := s2.sign (c := -10) lv_m10 phi_m10.symm
    rw [List.append_assoc] at s3
    exact qv (hQ _ s3.ps) (bI_p h10)
  · replace h10 := bI_f h10
    iterate 2 refine hS _ _ _ _ ?_
    refine ⟨rfl, ?_⟩
    exact qv (hQ M2 ⟨c2.1, c2.2.1, fun z => absurd z h10⟩) (bI_n h10)
theorem sp_readsBracket {b : Bool} {T1 : TK} {ps : List Int32} {op ng : Nat} (hd : 7 ≤ d) (hn : n ≤ 96) (hT : TO n f T) (hM : CSt M0 n f ky x M T C) (h1 : T.2.2.1 = 1) (hC : C.length ≤ T.1) (hT1 : TO n f T1)
    (hp : ∀ e, d = e + 1 → ∀ M C Q, CSt M0 n f ky x M (nt f n T) C → C.length ≤ (nt f n T).1 → (∀ M1, CPs M0 n f ky x M1 b T1 (C ++ ps) → Q (some (.inl (bI (b = true)))) M1) → Td PR e 45 [.inr (11, 0, 0), .inl 0, .inl (nI op), .inl (nI ng)] M Q)
    (k1 : b = true → T1.2.2.1 = 1 → T1.2.2.2 = 41 → ∀ M1, CSt M0 n f ky x M1 (nt f n T1) (C ++ ps) → Q (some (.inl 1)) M1)
    (k0 : ¬ (b = true ∧ T1.2.2.1 = 1 ∧ T1.2.2.2 = 41) → ∀ M1, FX M0 x M1 → CT M1 n f T1 → Q (some (.inl 0)) M1) : Td PR d 49 [.inr (11, 0, 0), .inl (nI op), .inl (nI ng)] M Q := by
  have hlt := hT.lt (by omega)
  have hnt := hT.nt
  obtain ⟨e, rfl⟩ : ∃ e, d = e + 1 := ⟨d - 1, by omega⟩
  refine td_X4_readsBracket ?_
  intro S hS
  iterate 2 refine hS _ _ _ _ ?_
  refine sp_goOn (n := n) (f := f) (T := T) (by omega) hn hT.1.2.1 hT.1.2.2.1 hM.1 (fun M1 g1 g2 => ?_)
  iterate 5 refine hS _ _ _ _ ?_
  refine hp e rfl M1 C _ (hM.go g1 g2) (by omega) (fun M2 c2 => ?_)
  refine hS _ _ _ _ ?_
  refine And.intro (fun h11 => ?_) (fun h11 => ?_)
  · replace h11 := bI_f h11
    iterate 2 refine hS _ _ _ _ ?_
    refine ⟨rfl, ?_⟩
    exact k0 (fun z => h11 z.1) M2 c2.1 c2.2.1
  · replace h11 := bI_t h11
    iterate 3 refine hS _ _ _ _ ?_
    refine sp_isSign (n := n) (f := f) (T := T1) (by omega) hn c2.2.1 hT1.1 ?_
    refine hS _ _ _ _ ?_
    refine And.intro (fun h20 => ?_) (fun h20 => ?_)
    · replace h20 := bI_t h20
      iterate 2 refine hS _ _ _ _ ?_
      refine sp_goOn (n := n) (f := f) (T := T1) (by omega) hn hT1.1.2.1 hT1.1.2.2.1 c2.2.1 (fun M3 g3 g4 => ?_)
      iterate 2 refine hS _ _ _ _ ?_
      refine ⟨rfl, ?_⟩
      exact k1 h11 h20.1 h20.2 M3 ((c2.2.2 h11).go g3 g4)
    · replace h20 := bI_f h20
      iterate 2 refine hS _ _ _ _ ?_
      refine ⟨rfl, ?_⟩
      exact k0 (fun z => h20 z.2) M2 c2.1 c2.2.1
end W47b
