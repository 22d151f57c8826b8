-- 73.pure44: how many nots are open
def noF (W : List Nat) : Nat := W.countP (fun w => w == 10)
section W44
variable {d : Nat} {M : Mem} {Q : PQ}
/-- the sum from below, of k signs -/
def noM (M : Mem) : Nat → Nat
  | 0 => 0
  | k + 1 => noM M k + (if M 53 0 0 k = -10 then 1 else 0)
theorem noM_le : ∀ k, noM M k ≤ k := by
  intro k
  induction k with
  | zero => exact Nat.le_refl _
  | succ k ih => unfold noM; split <;> omega
theorem sm_notsOpen {n : Nat} (hd : 1 ≤ d) (hn : n ≤ 96) (e23 : M 30 0 0 23 = nI n) (hQ : Q (some (.inl (nI (noM M n)))) M) : Td PR d 194 [.inr (30, 0, 0)] M Q := by
  obtain ⟨e, rfl⟩ : ∃ e, d = e + 1 := ⟨d - 1, by omega⟩
  refine td_X10_notsOpen ?_
  intro S hS
  have lp : S 4 [some (.inr (30, 0, 0)), some (.inl (nI (noM M 0))), some (.inl (nI 0))] [] M := by
    refine lp_up (T := fun k => S 4 [some (.inr (30, 0, 0)), some (.inl (nI (noM M k))), some (.inl (nI k))] [] M) (N := n) ?_ ?_ 0 (Nat.zero_le _)
    · iterate 4 refine hS _ _ _ _ ?_
      refine And.intro (fun h9 => ?_) (fun h9 => ?_)
      · iterate 2 refine hS _ _ _ _ ?_
        exact hQ
      · exact (by rw [e23] at h9; exact (lp_x rfl h9).elim)
    · intro k hk ih
      rw [nI_succ] at ih
      iterate 4 refine hS _ _ _ _ ?_
      refine And.intro (fun h9 => ?_) (fun h9 => ?_)
      · exact (by rw [e23] at h9; exact (lp_s rfl hk (by omega) h9).elim)
      · iterate 5 refine hS _ _ _ _ ?_
        refine ⟨(by first | assumption | exact vp_in_nI (by simp only [alen]; omega) (by decide)), ?_⟩
        try rw [nI_clamp (by omega)]
        iterate 2 refine hS _ _ _ _ ?_
        refine And.intro (fun h21 => ?_) (fun h21 => ?_)
        · have ev : noM M (k + 1) = noM M k := by unfold noM; rw [if_neg h21]; cases k <;> rfl
          rw [ev] at ih
          iterate 5 refine hS _ _ _ _ ?_
          rw [show nI (noM M k) + 0 = nI (noM M k) from Int32.add_zero _]
          exact ih
        · have ev : noM M (k + 1) = noM M k + 1 := by show noM M k + _ = _; rw [if_pos h21]
          rw [ev, nI_succ] at ih
          iterate 6 refine hS _ _ _ _ ?_
          exact ih
  iterate 4 refine hS _ _ _ _ ?_
  exact lp
theorem noM_F : ∀ W : List Nat, (∀ w, w ∈ W → 1 ≤ w ∧ w ≤ 11) → (∀ i, i < W.length → M 53 0 0 i = - nI (W.getD (W.length - 1 - i) 0)) → noM M W.length = noF W := by
  intro W
  induction W with
  | nil => intro _ _; rfl
  | cons w W ih =>
    intro hw h
    have h0 := ih (fun v hv => hw v (List.mem_cons_of_mem _ hv)) (fun i hi => by
      rw [h i (by simp only [List.length_cons]; omega)]
      simp only [List.length_cons]
      rw [show W.length + 1 - 1 - i = (W.length - 1 - i) + 1 by omega]
      rfl)
    have h1 : M 53 0 0 W.length = - nI w := by
      rw [h W.length (by simp only [List.length_cons]; omega)]
      simp only [List.length_cons]
      rw [show W.length + 1 - 1 - W.length = 0 by omega]
      rfl
    have h2 : ∀ w, w < 12 → (- nI w = -10 ↔ w = 10) := by decide
    have h3 := h2 w (by have := hw w (List.mem_cons_self ..); omega)
    show noM M W.length + (if M 53 0 0 W.length = -10 then 1 else 0) = _
    unfold noF at *
    rw [h0, h1, List.countP_cons]
    by_cases z : w = 10
    · rw [if_pos (h3.mpr z), if_pos (by simp [z])]
    · rw [if_neg (fun y => z (h3.mp y)), if_neg (by simp [z])]
end W44
