-- 74.pure45: signs by number, words kept, lists of signs
def sgB (k : Nat) : Int32 := [0, 124, 38, 60, 61, 62, 43, 45, 42, 47].getD k 0
/-- a sign that joins, by number, stands here -/
def SG (T : TK) (k : Nat) : Prop := T.2.2.1 = 1 ∧ 1 ≤ k ∧ k < 10 ∧ T.2.2.2 = sgB k
theorem sgV_B : ∀ k, k < 10 → 1 ≤ k → sgV (sgB k) = - nI k := by decide
theorem phi_B : ∀ k, k < 10 → 1 ≤ k → phi (- nI k) = - sgB k := by decide
theorem sgB_bd : ∀ k, k < 10 → (narrow .char (.int (sgB k)) = .int (sgB k)) := by decide
theorem sgB_in : ∀ k, k < 10 → ∀ j, j < 10 → 1 ≤ j → 1 ≤ k → sgB k = sgB j → k = j := by decide
theorem sgV_0 {v : Int32} (h : ∀ k, 1 ≤ k → k < 10 → ¬ v = sgB k) : sgV v = 0 := by
  unfold sgV
  rw [if_neg (show ¬ v = 38 from h 2 (by decide) (by decide)), if_neg (show ¬ v = 42 from h 8 (by decide) (by decide)), if_neg (show ¬ v = 43 from h 6 (by decide) (by decide)), if_neg (show ¬ v = 45 from h 7 (by decide) (by decide)), if_neg (show ¬ v = 47 from h 9 (by decide) (by decide)), if_neg (show ¬ v = 60 from h 3 (by decide) (by decide)), if_neg (show ¬ v = 61 from h 4 (by decide) (by decide)), if_neg (show ¬ v = 62 from h 5 (by decide) (by decide)), if_neg (show ¬ v = 124 from h 1 (by decide) (by decide))]
theorem SG.un {T : TK} {k j : Nat} (h : SG T k) (h' : SG T j) : k = j := sgB_in k h.2.2.1 j h'.2.2.1 h'.2.1 h.2.1 (h.2.2.2.symm.trans h'.2.2.2)
theorem ixF_mem {i : Nat} {c : Int32} : ∀ m k, ixF i c k m = -1 ∨ ∃ q, k ≤ q ∧ q < k + m ∧ sB i q = c ∧ ixF i c k m = nI q := by
  intro m
  induction m with
  | zero => intro k; exact Or.inl rfl
  | succ m ih =>
    intro k
    unfold ixF
    by_cases z : sB i k = c
    · rw [if_pos z]; exact Or.inr ⟨k, Nat.le_refl _, by omega, z, rfl⟩
    · rw [if_neg z]
      rcases ih (k + 1) with a | ⟨q, a, b, c1, c2⟩
      · exact Or.inl a
      · exact Or.inr ⟨q, by omega, by omega, c1, c2⟩
def kOf (l q : Nat) : Nat := ([[1], [2], [3, 4, 5], [6, 7], [8, 9]].getD l []).getD q 0
theorem kOf_ok : ∀ l, l < 5 → ∀ q, q < sLen (6 + l) → 1 ≤ kOf l q ∧ kOf l q < 10 ∧ sB (6 + l) q = sgB (kOf l q) ∧ rkN (kOf l q) = l + 1 := by decide +kernel
theorem jn_b : ∀ k, k < 10 → 1 ≤ k → ¬ ixF (6 + (rkN k - 1)) (sgB k) 0 (sLen (6 + (rkN k - 1))) < 0 := by decide +kernel
theorem jn {T : TK} {l : Nat} (hl : l < 5) : (T.2.2.1 = 1 ∧ ¬ ixF (6 + l) T.2.2.2 0 (sLen (6 + l)) < 0) ↔ ∃ k, SG T k ∧ rkN k = l + 1 := by
  constructor
  · intro ⟨a, b⟩
    rcases ixF_mem (i := 6 + l) (c := T.2.2.2) (sLen (6 + l)) 0 with z | ⟨q, -, q2, q3, -⟩
    · rw [z] at b; exact absurd (by decide) b
    · obtain ⟨k1, k2, k3, k4⟩ := kOf_ok l hl q (by omega)
      exact ⟨kOf l q, ⟨a, k1, k2, q3.symm.trans k3⟩, k4⟩
  · intro ⟨k, ⟨a, b, c, e⟩, h⟩
    have q := jn_b k c b
    rw [h, Nat.add_sub_cancel, ← e] at q
    exact ⟨a, q⟩
theorem dgs_q {x : Int32} (h : dgs x) : ∃ q, q < 10 ∧ x = nI (48 + q) := by
  have h2 := Int32.not_lt.mp h.2
  obtain ⟨j, hj, rfl⟩ := isBd_in (n := 58) (fun z => h.1 (Int32.lt_trans z (by decide))) (fun z => absurd (Int32.le_trans z h2) (by decide)) (by decide)
  have h1 : ¬ j < 48 := fun z => h.1 (nI_lt z (by decide))
  exact ⟨j - 48, by omega, by rw [show 48 + (j - 48) = j by omega]⟩
theorem nvF_bd {f : FA} {s : Nat} : ∀ m, (∀ i, i < m → dgs (f (s + i))) → ∃ j, j < 10 ^ m ∧ nvF f s m = nI j := by
  intro m
  induction m with
  | zero => intro _; exact ⟨0, by decide, rfl⟩
  | succ m ih =>
    intro h
    obtain ⟨j, hj, ej⟩ := ih (fun i hi => h i (by omega))
    obtain ⟨q, hq, eq⟩ := dgs_q (h m (by omega))
    refine ⟨j * 10 + q, by rw [Nat.pow_succ]; omega, ?_⟩
    show nvF f s m * nI 10 + f (s + m) - nI 48 = _
    rw [ej, eq, nI_mul, nI_add, nI_sub (by omega)]
    congr 1
    omega
theorem tk_bd {f : FA} {n p : Nat} {w : Prop} (h : (tk f n p w).2.2.1 = 3) : isBd 10000 (tk f n p w).2.2.2 := by
  generalize hs : rn sps f p (n - p) = s at *
  by_cases h1 : s = n
  · rw [tk_e hs h1] at h; exact absurd h (show ¬ (0 : Nat) = 3 by decide)
  · by_cases h2 : dgs (f s)
    · rw [tk_d hs h1 h2] at h ⊢
      have hc : rn dgs f s (n - s) - s ≤ 4 := by
        refine Nat.le_of_not_lt fun z => ?_
        have h' : @ite Nat (4 < rn dgs f s (n - s) - s ∨ (w ∧ s = p)) (Classical.propDecidable _) 4 3 = 3 := h
        rw [if_pos (Or.inl z)] at h'
        exact absurd h' (by decide)
      obtain ⟨j, hj, ej⟩ := nvF_bd (f := f) (s := s) (rn dgs f s (n - s) - s) (fun i hi => rn_all (n - s) s (s + i) (by omega) (by omega))
      exact ⟨j, Nat.lt_of_lt_of_le hj (Nat.pow_le_pow_right (by decide) hc), ej⟩
    · by_cases h3 : lts (f s)
      · rw [tk_l hs h1 h2 h3] at h
        have h' : @ite Nat (w ∧ s = p) (Classical.propDecidable _) 4 2 = 3 := h
        by_cases z : w ∧ s = p
        · rw [if_pos z] at h'; exact absurd h' (by decide)
        · rw [if_neg z] at h'; exact absurd h' (by decide)
      · rw [tk_s hs h1 h2 h3] at h
        exact absurd h (show ¬ (1 : Nat) = 3 by decide)
/-- a word as all are -/
def TO (n : Nat) (f : FA) (T : TK) : Prop := TOk n f T ∧ (T.2.2.1 = 3 → isBd 10000 T.2.2.2)
theorem tk_to {f : FA} {n p : Nat} {w : Prop} (he : p ≤ n) : TO n f (tk f n p w) ∧ p ≤ (tk f n p w).1 := ⟨⟨(tk_ok he).1, tk_bd⟩, (tk_ok he).2⟩
theorem TO.nt {f : FA} {n : Nat} {T : TK} (h : TO n f T) : TO n f (nt f n T) ∧ T.2.1 ≤ (nt f n T).1 := tk_to h.1.2.1
theorem TO.lt {f : FA} {n : Nat} {T : TK} (h : TO n f T) (hk : T.2.2.1 ≠ 0) : T.1 < T.2.1 ∧ T.2.1 ≤ n := ⟨h.1.2.2.2.1 hk, h.1.2.1⟩
theorem nmF_mem {T : TK} {ky : Nat} (hk : ky < 3) (h : ¬ nmF T ky < 0) : ∃ q, q < (if ky = 0 then 3 else 2) ∧ nmF T ky = nI q ∧ T.2.2.1 = 2 ∧ T.2.1 - T.1 = 1 ∧ nmF T ky = ixF (3 + ky) T.2.2.2 0 (sLen (3 + ky)) := by
  unfold nmF at *
  by_cases z : T.2.2.1 = 2 ∧ T.2.1 - T.1 = 1
  · rw [iteC_t z] at h ⊢
    rcases ixF_mem (i := 3 + ky) (c := T.2.2.2) (sLen (3 + ky)) 0 with a | ⟨q, -, q2, -, q4⟩
    · rw [a] at h; exact absurd (by decide) h
    · have hl : ∀ ky, ky < 3 → sLen (3 + ky) = if ky = 0 then 3 else 2 := by decide +kernel
      rw [hl ky hk] at q2
      exact ⟨q, by omega, q4, z.1, z.2, rfl⟩
  · rw [iteC_f z] at h; exact absurd (by decide) h
-- lists
def lvN (C : List Int32) : Nat := C.countP (fun c => decide (0 ≤ c))
def ngL (V : List Nat) : List Int32 := V.map (fun v => - nI v)
def EnT (r : Nat) (W : List Nat) : Prop := ∀ w W', W = w :: W' → ¬ (w ≠ 11 ∧ r ≤ rkN w)
theorem neg_nn : ∀ w, w < 12 → 1 ≤ w → ¬ (0 : Int32) ≤ - nI w := by decide
theorem lvN_neg {C : List Int32} {w : Nat} (h1 : 1 ≤ w) (h2 : w ≤ 11) : lvN (C ++ [- nI w]) = lvN C := by
  unfold lvN
  rw [List.countP_append, List.countP_singleton, if_neg (by simpa using neg_nn w (by omega) h1)]
  rfl
theorem lvN_pos {C : List Int32} {v : Int32} {n : Nat} (h : isBd n v) (hn : n < 100000) : lvN (C ++ [v]) = lvN C + 1 := by
  obtain ⟨j, hj, rfl⟩ := h
  unfold lvN
  rw [List.countP_append, List.countP_singleton, if_pos (decide_eq_true (show (0 : Int32) ≤ nI j from nI_le (a := 0) (Nat.zero_le j) (by omega)))]
theorem seF_app {r : Nat} : ∀ (V W : List Nat) (C : List Int32), (∀ v, v ∈ V → v ≠ 11 ∧ r ≤ rkN v) → seF r (V ++ W) C = seF r W (C ++ ngL V) := by
  intro V
  induction V with
  | nil => intro W C _; show seF r W C = seF r W (C ++ []); rw [List.append_nil]
  | cons v V ih =>
    intro W C h
    show seF r (v :: (V ++ W)) C = _
    rw [seF_c, if_pos (h v (List.mem_cons_self ..)), ih W _ (fun u hu => h u (List.mem_cons_of_mem _ hu))]
    congr 1
    show (C ++ [- nI v]) ++ ngL V = C ++ ([- nI v] ++ ngL V)
    rw [List.append_assoc]
theorem seF_ent {r : Nat} {W : List Nat} {C : List Int32} (h : EnT r W) : seF r W C = (W, C) := by
  cases W with
  | nil => rfl
  | cons w W => rw [seF_c, if_neg (h w W rfl)]
theorem seF_len {r : Nat} : ∀ (W : List Nat) (C : List Int32), (seF r W C).1.length + (seF r W C).2.length = W.length + C.length := by
  intro W
  induction W with
  | nil => intro C; rfl
  | cons w W ih =>
    intro C
    rw [seF_c]
    split
    · rw [ih, List.length_append, List.length_singleton, List.length_cons]; omega
    · rfl
theorem seF_lv {r : Nat} : ∀ (W : List Nat) (C : List Int32), (∀ w, w ∈ W → 1 ≤ w ∧ w ≤ 11) → lvN (seF r W C).2 = lvN C := by
  intro W
  induction W with
  | nil => intro C _; rfl
  | cons w W ih =>
    intro C h
    obtain ⟨h1, h2⟩ := h w (List.mem_cons_self ..)
    rw [seF_c]
    split
    · rw [ih _ (fun u hu => h u (List.mem_cons_of_mem _ hu)), lvN_neg h1 h2]
    · rfl
theorem EnT.mono {r r' : Nat} {W : List Nat} (h : EnT r W) (hr : r ≤ r') : EnT r' W := fun w W' e z => h w W' e ⟨z.1, Nat.le_trans hr z.2⟩
theorem noF_app {V W : List Nat} (h : ∀ v, v ∈ V → v < 10) : noF (V ++ W) = noF W := by
  unfold noF
  rw [List.countP_append, List.countP_eq_zero.mpr (fun v hv => by have := h v hv; simp; omega), Nat.zero_add]
/-- signs in order behind what they join: from so many to so many -/
def okR (nm : Nat) : List Int32 → Nat → Nat → Prop
  | [], a, b => a = b
  | c :: C, a, b => (isBd (10000 + nm) c ∧ okR nm C (a + 1) b) ∨ (c = -10 ∧ 1 ≤ a ∧ okR nm C a b) ∨ ((∃ j, 1 ≤ j ∧ j < 10 ∧ c = - nI j) ∧ 2 ≤ a ∧ okR nm C (a - 1) b)
theorem okR_app {nm : Nat} : ∀ (X Y : List Int32) (a b c : Nat), okR nm X a b → okR nm Y b c → okR nm (X ++ Y) a c := by
  intro X
  induction X with
  | nil => intro Y a b c h h'; subst h; exact h'
  | cons x X ih =>
    intro Y a b c h h'
    rcases h with ⟨h1, h2⟩ | ⟨h1, h2, h3⟩ | ⟨h1, h2, h3⟩
    · exact Or.inl ⟨h1, ih _ _ _ _ h2 h'⟩
    · exact Or.inr (Or.inl ⟨h1, h2, ih _ _ _ _ h3 h'⟩)
    · exact Or.inr (Or.inr ⟨h1, h2, ih _ _ _ _ h3 h'⟩)
theorem okR_depS {nm : Nat} {g : FA} (hnm : nm < 10) : ∀ (Y X : List Int32) (b : Nat), (∀ k, k < (X ++ Y).length → g k = (X ++ Y).getD k 0) → okR nm Y (depS g X.length) b → depS g (X ++ Y).length = b ∧ ∀ k, X.length ≤ k → k < (X ++ Y).length → (isBd (10000 + nm) (g k) ∨ (g k = -10 ∧ 1 ≤ depS g k) ∨ (∃ j, 1 ≤ j ∧ j < 10 ∧ g k = - nI j ∧ 2 ≤ depS g k)) := by
  intro Y
  induction Y with
  | nil => intro X b _ h; rw [List.append_nil]; exact ⟨h, fun k h1 h2 => absurd h2 (by omega)⟩
  | cons y Y ih =>
    intro X b hg h
    have ey : g X.length = y := by
      rw [hg X.length (by rw [List.length_append, List.length_cons]; omega), List.getD_eq_getElem?_getD, List.getElem?_append_right (Nat.le_refl _), Nat.sub_self]
      rfl
    have ea : X ++ y :: Y = (X ++ [y]) ++ Y := by rw [List.append_assoc]; rfl
    have el : (X ++ [y]).length = X.length + 1 := by rw [List.length_append, List.length_singleton]
    have key : okR nm Y (depS g (X ++ [y]).length) b → (isBd (10000 + nm) (g X.length) ∨ (g X.length = -10 ∧ 1 ≤ depS g X.length) ∨ (∃ j, 1 ≤ j ∧ j < 10 ∧ g X.length = - nI j ∧ 2 ≤ depS g X.length)) → (depS g (X ++ y :: Y).length = b ∧ ∀ k, X.length ≤ k → k < (X ++ y :: Y).length → (isBd (10000 + nm) (g k) ∨ (g k = -10 ∧ 1 ≤ depS g k) ∨ (∃ j, 1 ≤ j ∧ j < 10 ∧ g k = - nI j ∧ 2 ≤ depS g k))) := fun q hh => by
      rw [ea] at hg ⊢
      obtain ⟨r1, r2⟩ := ih (X ++ [y]) b hg q
      refine ⟨r1, fun k k1 k2 => ?_⟩
      by_cases z : k = X.length
      · rw [z]; exact hh
      · exact r2 k (by rw [el]; omega) k2
    have ed : depS g (X ++ [y]).length = if 0 ≤ y then depS g X.length + 1 else if y = -10 then depS g X.length else depS g X.length - 1 := by rw [el, ← ey]; rfl
    rcases h with ⟨h1, h2⟩ | ⟨h1, h2, h3⟩ | ⟨⟨j, j1, j2, j3⟩, h2, h3⟩
    · refine key ?_ (Or.inl (ey ▸ h1))
      obtain ⟨j, hj, rfl⟩ := h1
      rw [ed, if_pos (show (0 : Int32) ≤ nI j from nI_le (a := 0) (Nat.zero_le j) (by omega))]
      exact h2
    · refine key ?_ (Or.inr (Or.inl ⟨ey.trans h1, h2⟩))
      subst h1
      rw [ed, if_neg (by decide), if_pos rfl]
      exact h3
    · refine key ?_ (Or.inr (Or.inr ⟨j, j1, j2, ey.trans j3, h2⟩))
      have n1 : ¬ (0 : Int32) ≤ - nI j := neg_nn j (by omega) j1
      have n2 : ∀ j, j < 10 → ¬ - nI j = -10 := by decide
      rw [ed, if_neg (j3 ▸ n1), if_neg (j3 ▸ n2 j j2)]
      exact h3
theorem okR_okS {nm : Nat} {g : FA} {C : List Int32} (hnm : nm < 10) (h96 : C.length ≤ 96) (hg : ∀ k, k < C.length → g k = C.getD k 0) (h : okR nm C 0 1) : okS g nm C.length := by
  obtain ⟨a, b⟩ := okR_depS hnm C [] 1 hg h
  have a' : depS g C.length = 1 := a
  refine ⟨?_, h96, by omega, fun k hk => b k (Nat.zero_le _) hk⟩
  refine Nat.one_le_iff_ne_zero.mpr fun z => ?_
  rw [z] at a'
  exact absurd a' (show ¬ (0 : Nat) = 1 by decide)
