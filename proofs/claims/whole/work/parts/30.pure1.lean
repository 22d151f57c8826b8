-- 30.pure1: small numbers, frames
theorem nI_mul (a b : Nat) : nI a * nI b = nI (a * b) := (Int32.ofNat_mul a b).symm
theorem nI_sub {a b : Nat} (h : b ≤ a) : nI a - nI b = nI (a - b) := (Int32.ofNat_sub a b h).symm
/-- what may be touched, by kind and first index -/
def Fr (T : Nat → Nat → Bool) (M M' : Mem) : Prop := ∀ k i, T k i = false → M' k i = M k i
theorem fr_rf {T : Nat → Nat → Bool} {M : Mem} : Fr T M M := fun _ _ _ => rfl
theorem fr_tr {T : Nat → Nat → Bool} {M M' M'' : Mem} (h : Fr T M M') (h' : Fr T M' M'') : Fr T M M'' := fun k i e => (h' k i e).trans (h k i e)
theorem fr_wk {T T' : Nat → Nat → Bool} {M M' : Mem} (h : Fr T M M') (e : ∀ k i, T' k i = false → T k i = false) : Fr T' M M' := fun k i z => h k i (e k i z)
theorem mr_out {M : Mem} {k i j k' i' : Nat} {f : Nat → Int32} (h : ¬ (k' = k ∧ i' = i)) : mr M k i j f k' i' = M k' i' := by
  funext j'
  exact mr_ne (fun z => h ⟨z.1, z.2.1⟩)
theorem fr_mu {T : Nat → Nat → Bool} {M M' : Mem} {k i j s : Nat} {v : Int32} (h : Fr T M M') (e : T k i = true) : Fr T M (mu M' k i j s v) := fun k' i' z => by
  unfold mu
  rw [mr_out (fun q => by rw [q.1, q.2, e] at z; cases z)]
  exact h k' i' z
