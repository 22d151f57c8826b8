-- 72.pure43: settling
/-- signs by number 1..10, 11 an open bracket; the top of the stack first -/
def seF (r : Nat) : List Nat → List Int32 → List Nat × List Int32
  | [], C => ([], C)
  | w :: W, C => if w ≠ 11 ∧ r ≤ rkN w then seF r W (C ++ [- nI w]) else (w :: W, C)
theorem rkN_lt : ∀ w, w < 12 → rkN w < 2147483648 := by
  intro w _
  unfold rkN
  repeat' split
  all_goals omega
theorem rkN_10 : ∀ w, w < 12 → rkN w < 10 := by decide
theorem seF_c {r w : Nat} {W : List Nat} {C : List Int32} : seF r (w :: W) C = if w ≠ 11 ∧ r ≤ rkN w then seF r W (C ++ [- nI w]) else (w :: W, C) := rfl
/-- the reference's stack of signs and its code -/
def RS (M : Mem) (W : List Nat) (C : List Int32) : Prop := M 30 0 0 23 = nI W.length ∧ (∀ i, i < W.length → M 53 0 0 i = - nI (W.getD (W.length - 1 - i) 0)) ∧ (∀ w, w ∈ W → 1 ≤ w ∧ w ≤ 11) ∧ M 30 0 0 20 = nI C.length ∧ ∀ k, k < C.length → M 50 0 0 k = C.getD k 0
def FS (M M1 : Mem) : Prop := (∀ k, k ≠ 30 → k ≠ 50 → M1 k = M k) ∧ ∀ j, j ≠ 20 → j ≠ 23 → M1 30 0 0 j = M 30 0 0 j
theorem FS.rf {M : Mem} : FS M M := ⟨fun _ _ _ => rfl, fun _ _ _ => rfl⟩
theorem RS.pop {M : Mem} {w : Nat} {W : List Nat} {C : List Int32} (h : RS M (w :: W) C) : RS (mu (mu (mu M 30 0 0 23 (nI W.length)) 50 0 0 C.length (- nI w)) 30 0 0 20 (nI (C.length + 1))) W (C ++ [- nI w]) := by
  obtain ⟨a, b, c, d, e⟩ := h
  refine ⟨?_, fun i hi => ?_, fun w hw => c w (List.mem_cons_of_mem _ hw), ?_, fun k hk => ?_⟩
  · rw [mz_sl (by decide), mz_k (by decide), mz_at]
  · rw [mz_k (by decide), mz_k (by decide), mz_k (by decide), b i (by simp only [List.length_cons]; omega)]
    congr 2
    simp only [List.length_cons]
    rw [show W.length + 1 - 1 - i = (W.length - 1 - i) + 1 by omega]
    rfl
  · rw [mz_at, List.length_append]
    rfl
  · rw [mz_k (by decide)]
    by_cases z : k = C.length
    · subst z
      rw [mz_at]
      simp
    · rw [mz_sl z, mz_k (by decide), e k (by simp only [List.length_append, List.length_singleton] at hk; omega)]
      simp only [List.length_append, List.length_singleton] at hk
      rw [List.getD_eq_getElem?_getD, List.getD_eq_getElem?_getD, List.getElem?_append_left (by omega)]
theorem FS.pop {M M1 : Mem} (h : FS M M1) {m : Nat} {u v w : Int32} : FS M (mu (mu (mu M1 30 0 0 23 u) 50 0 0 m v) 30 0 0 20 w) := ⟨fun k a b => by rw [mz_k a, mz_k b, mz_k a]; exact h.1 k a b, fun j a b => by rw [mz_sl a, mz_k (by decide), mz_sl b]; exact h.2 j a b⟩
section W43
variable {d : Nat} {M : Mem} {Q : PQ}
theorem sm_settle {r : Nat} {W : List Nat} {C : List Int32} (hd : 2 ≤ d) (hr : r < 10) (h96 : W.length + C.length ≤ 96) (h : RS M W C) (hQ : ∀ M1, FS M M1 → RS M1 (seF r W C).1 (seF r W C).2 → Q none M1) : Td PR d 190 [.inr (30, 0, 0), .inl (nI r)] M Q := by
  obtain ⟨e, rfl⟩ : ∃ e, d = e + 1 := ⟨d - 1, by omega⟩
  refine td_X10_settle ?_
  intro S hS
  have lp : ∀ W C M1, W.length + C.length ≤ 96 → RS M1 W C → FS M M1 → (∀ M2, FS M M2 → RS M2 (seF r W C).1 (seF r W C).2 → Q none M2) → S 0 [some (.inr (30, 0, 0)), some (.inl (nI r))] [] M1 := by
    intro W
    induction W with
    | nil =>
      intro C M1 h96 h f hQ
      have e23 : M1 30 0 0 23 = nI 0 := h.1
      iterate 3 refine hS _ _ _ _ ?_
      refine And.intro (fun h4 => ?_) (fun h4 => ?_)
      · refine hS _ _ _ _ ?_
        exact hQ M1 f h
      · exact (h4 (by rw [e23]; decide)).elim
    | cons w W ih =>
      intro C M1 h96 h f hQ
      simp only [List.length_cons] at h96
      have e23 : M1 30 0 0 23 = nI (W.length + 1) := h.1
      have e20 : M1 30 0 0 20 = nI C.length := h.2.2.2.1
      have em : M1 30 0 0 23 - 1 = nI W.length := by rw [e23]; exact nI_sub (b := 1) (by omega)
      have ew : M1 53 0 0 W.length = - nI w := by
        rw [h.2.1 W.length (by simp only [List.length_cons]; omega)]
        simp only [List.length_cons]
        rw [show W.length + 1 - 1 - W.length = 0 by omega]
        rfl
      obtain ⟨w1, w2⟩ := h.2.2.1 w (List.mem_cons_self ..)
      have e11 : - nI w = -11 ↔ w = 11 := by
        have : ∀ w, w < 12 → (- nI w = -11 ↔ w = 11) := by decide
        exact this w (by omega)
      rw [seF_c] at hQ
      iterate 3 refine hS _ _ _ _ ?_
      refine And.intro (fun h4 => ?_) (fun h4 => ?_)
      · exact absurd (show M1 30 0 0 23 ≤ nI 0 from h4) (by rw [e23]; exact nI_ge (by omega) (by omega))
      · iterate 7 refine hS _ _ _ _ ?_
        rw [em]
        refine ⟨(by first | assumption | exact vp_in_nI (by simp only [alen]; omega) (by decide)), ?_⟩
        try rw [nI_clamp (by omega)]
        iterate 2 refine hS _ _ _ _ ?_
        refine And.intro (fun h20 => ?_) (fun h20 => ?_)
        · rw [ew, e11] at h20
          rw [if_neg (fun z => z.1 h20)] at hQ
          refine hS _ _ _ _ ?_
          exact hQ M1 f h
        · rw [ew, e11] at h20
          iterate 7 refine hS _ _ _ _ ?_
          rw [em]
          refine ⟨(by first | assumption | exact vp_in_nI (by simp only [alen]; omega) (by decide)), ?_⟩
          try rw [nI_clamp (by omega)]
          refine hS _ _ _ _ ?_
          rw [ew]
          refine sm_rank (by omega) w1 (by omega) ?_
          iterate 2 refine hS _ _ _ _ ?_
          refine And.intro (fun h38 => ?_) (fun h38 => ?_)
          · rw [if_neg (fun z => nI_nlt z.2 (rkN_lt w (by omega)) h38)] at hQ
            refine hS _ _ _ _ ?_
            exact hQ M1 f h
          · have g : r ≤ rkN w := Nat.le_of_not_lt fun z => h38 (nI_lt z (by omega))
            rw [if_pos ⟨h20, g⟩] at hQ
            iterate 15 refine hS _ _ _ _ ?_
            rw [em, show gfv (mu M1 30 0 0 23 (nI W.length)) 30 0 0 23 = .inl (nI W.length) from congrArg Sum.inl mz_at]
            refine ⟨(by first | assumption | exact vp_in_nI (by simp only [alen]; omega) (by decide)), ?_⟩
            try rw [nI_clamp (by omega)]
            refine hS _ _ _ _ ?_
            rw [show gfv (mu M1 30 0 0 23 (nI W.length)) 30 0 0 20 = .inl (nI C.length) from congrArg Sum.inl ((mz_sl (by decide)).trans e20)]
            refine ⟨(by first | assumption | exact vp_in_nI (by simp only [alen]; omega) (by decide)), ?_⟩
            try rw [nI_clamp (by omega)]
            iterate 7 refine hS _ _ _ _ ?_
            skip
            have q := ih (C ++ [- nI w]) _ (by rw [List.length_append, List.length_singleton]; omega) h.pop f.pop hQ
            have x1 : mu M1 30 0 0 23 (nI W.length) 53 0 0 W.length = - nI w := by rw [mz_k (by decide)]; exact ew
            have x2 : ∀ v, mu (mu M1 30 0 0 23 (nI W.length)) 50 0 0 C.length v 30 0 0 20 + 1 = nI (C.length + 1) := fun v => by rw [mz_k (by decide), mz_sl (by decide), e20, nI_succ]
            rw [← x2 (- nI w), ← x1] at q
            exact q
  exact lp W C M h96 h FS.rf hQ
end W43
