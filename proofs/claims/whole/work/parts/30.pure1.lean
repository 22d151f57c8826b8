-- 30.pure1: small numbers, frames, the first methods
theorem nI_mul (a b : Nat) : nI a * nI b = nI (a * b) := (Int32.ofNat_mul a b).symm
theorem nI_sub {a b : Nat} (h : b ≤ a) : nI a - nI b = nI (a - b) := (Int32.ofNat_sub a b h).symm
/-- what may be touched, by kind and first index -/
def Fr (T : Nat → Nat → Bool) (M M' : Mem) : Prop := ∀ k i, T k i = false → M' k i = M k i
theorem fr_rf {T : Nat → Nat → Bool} {M : Mem} : Fr T M M := fun _ _ _ => rfl
theorem fr_tr {T : Nat → Nat → Bool} {M M' M'' : Mem} (h : Fr T M M') (h' : Fr T M' M'') : Fr T M M'' := fun k i e => (h' k i e).trans (h k i e)
theorem fr_wk {T T' : Nat → Nat → Bool} {M M' : Mem} (h : Fr T M M') (e : ∀ k i, T' k i = false → T k i = false) : Fr T' M M' := fun k i z => h k i (e k i z)
theorem mr_out {M : Mem} {k i j k' i' : Nat} {f : Nat → Int32} (h : ¬ (k' = k ∧ i' = i)) : mr M k i j f k' i' = M k' i' := by
  funext j'
  exact mr_ne (fun z => h ⟨z.1, z.2.1⟩)
theorem fr_mu {T : Nat → Nat → Bool} {M M' : Mem} {k i j s : Nat} {v : Int32} (h : Fr T M M') (e : T k i = true) : Fr T M (mu M' k i j s v) := fun k' i' z => by
  unfold mu
  rw [mr_out (fun q => by rw [q.1, q.2, e] at z; cases z)]
  exact h k' i' z
/-- a bed's ways, of its four numbers -/
def wideF (k : Int32) : Int32 := if k = 2 then 1 else if k = 4 then 3 else if k = 5 then 4 else 2
def undF (k o : Int32) : Int32 := if o = 0 ∨ k = o ∨ (o = 1 ∧ k = 3) ∨ (o = 2 ∧ k = 4) then 1 else 0
section W1
variable {d l b : Nat} {M : Mem} {Q : PQ}
theorem sp_wide (hd : 1 ≤ d) (hQ : Q (some (.inl (wideF (M 3 l b 0)))) M) : Td PR d 2 [.inr (3, l, b)] M Q := by
  obtain ⟨e, rfl⟩ : ∃ e, d = e + 1 := ⟨d - 1, by omega⟩
  refine td_X0_wide ?_
  intro S hS
  iterate 3 refine hS _ _ _ _ ?_
  unfold wideF at hQ
  refine And.intro (fun h1 => ?_) (fun h1 => ?_)
  · iterate 2 refine hS _ _ _ _ ?_
    rw [h1] at hQ
    exact hQ
  refine And.intro (fun h2 => ?_) (fun h2 => ?_)
  · iterate 2 refine hS _ _ _ _ ?_
    rw [h2] at hQ
    exact hQ
  refine And.intro (fun h3 => ?_) (fun h3 => ?_)
  · iterate 2 refine hS _ _ _ _ ?_
    rw [h3] at hQ
    exact hQ
  refine And.intro (fun h4 => ?_) (fun h4 => ?_)
  · iterate 2 refine hS _ _ _ _ ?_
    rw [h4] at hQ
    exact hQ
  iterate 2 refine hS _ _ _ _ ?_
  rw [if_neg h1, if_neg h3, if_neg h4] at hQ
  exact hQ
/-- two tests and their numbers -/
theorem sp_takes {m n : Int32} (hd : 1 ≤ d) (hQ : Q (some (.inl (if M 3 l b 0 = 1 ∧ ¬ m = 2 then M 3 l b 1 else if M 3 l b 0 = 4 ∧ ¬ irem n 2 = 0 then M 3 l b 3 else M 3 l b 2))) M) : Td PR d 3 [.inr (3, l, b), .inl m, .inl n] M Q := by
  obtain ⟨e, rfl⟩ : ∃ e, d = e + 1 := ⟨d - 1, by omega⟩
  refine td_X0_takes ?_
  intro S hS
  have tl : (¬ (M 3 l b 0 = 1 ∧ ¬ m = 2)) → S 18 [some (.inr (3, l, b)), some (.inl m), some (.inl n)] [] M := by
    intro e1
    rw [if_neg e1] at hQ
    iterate 4 refine hS _ _ _ _ ?_
    refine And.intro (fun h2 => ?_) (fun h2 => ?_)
    · have e2 : ¬ (M 3 l b 0 = 4 ∧ ¬ irem n 2 = 0) := fun z => h2 z.1
      rw [if_neg e2] at hQ
      iterate 3 refine hS _ _ _ _ ?_
      exact hQ
    · iterate 3 refine hS _ _ _ _ ?_
      refine ⟨by decide, ?_⟩
      iterate 1 refine hS _ _ _ _ ?_
      refine And.intro (fun h3 => ?_) (fun h3 => ?_)
      · have e2 : ¬ (M 3 l b 0 = 4 ∧ ¬ irem n 2 = 0) := fun z => z.2 h3
        rw [if_neg e2] at hQ
        iterate 3 refine hS _ _ _ _ ?_
        exact hQ
      · rw [if_pos ⟨h2, h3⟩] at hQ
        iterate 3 refine hS _ _ _ _ ?_
        exact hQ
  iterate 4 refine hS _ _ _ _ ?_
  refine And.intro (fun h1 => ?_) (fun h1 => ?_)
  · exact tl (fun z => h1 z.1)
  · iterate 3 refine hS _ _ _ _ ?_
    refine And.intro (fun h2 => ?_) (fun h2 => ?_)
    · exact tl (fun z => z.2 h2)
    · rw [if_pos ⟨h1, h2⟩] at hQ
      iterate 3 refine hS _ _ _ _ ?_
      exact hQ
end W1
