-- 83.pure54: the call text, in the class and in the reference
def FXt (t : Nat) (M M1 : Mem) : Prop := (∀ k, k ≠ 9 → k ≠ 10 → k ≠ 11 → M1 k = M k) ∧ (∀ i, i ≠ t → M1 9 i = M 9 i ∧ M1 10 i = M 10 i) ∧ M1 11 0 0 1 = 0
theorem FX.t {M M1 : Mem} {x : Nat} {v : Int32} (h : FX (mu M 11 0 0 6 v) x M1) : FXt x M (mu M1 11 0 0 1 0) := ⟨fun k a b c => by rw [mz_k c, h.1 k a b c, mz_k c], fun i hi => ⟨by rw [mz_k (by decide), (h.2.1 i hi).1, mz_k (by decide)], by rw [mz_k (by decide), (h.2.1 i hi).2, mz_k (by decide)]⟩, mz_at⟩
/-- what a text leaves in the reference's row -/
def NRw (f : FA) (t ky : Nat) (ps : List Int32) (m : Nat) : FA := fun i => if i = 86 + 2 * t then nI (1000 * ky + ps.length) else if i = 87 + 2 * t then nI (lvN ps) else if 114 + 96 * t ≤ i ∧ i < 114 + 96 * t + m then ps.getD (i - (114 + 96 * t)) 0 else f i
section W54
variable {d n t : Nat} {M : Mem} {Q : PQ} {f : FA}
theorem sp_readsText1 {x : Nat} (hd : 300 ≤ d) (hn : n ≤ 96) (hx : x < 16) (hb : ∀ i, i < n → isBd 256 (f i)) (e1 : M 11 0 0 1 = nI n) (hf : ∀ i, i < n → M 12 0 0 i = f i)
    (hQ : ∀ r M1, (r = 0 ∧ ∃ p, TxF f n p ∧ FX (mu M 11 0 0 6 (nI x)) x M1 ∧ M1 11 0 0 2 = nI p) ∨ (r = 1 ∧ ∃ ky ps, TxG f n ky ps ∧ FX (mu M 11 0 0 6 (nI x)) x M1 ∧ M1 9 x 0 0 = nI ky ∧ M1 9 x 0 2 = nI ps.length ∧ M1 9 x 0 3 = nI (lvN ps) ∧ (∀ k, k < ps.length → M1 10 x 0 k = phi (ps.getD k 0))) → Q (some (.inl r)) M1) : Td PR d 32 [.inr (11, 0, 0), .inr (9, x, 0)] M Q :=
  sp_readsText hd hn hx hb e1 hf (fun p hp M1 a b => hQ 0 M1 (Or.inl ⟨rfl, p, hp, a, b⟩)) (fun ky ps hp M1 a b c e g => hQ 1 M1 (Or.inr ⟨rfl, ky, ps, hp, a, b, c, e, g⟩))
theorem c_text (hd : 400 ≤ d) (hn : n ≤ 96) (ht : t ≤ 14) (hb : ∀ i, i < n → isBd 256 (f i)) (e1 : M 11 0 0 1 = nI n) (hf : ∀ i, i < n → M 12 0 0 i = f i) (et : M 1 0 0 12 = nI t)
    (k0 : ∀ p, TxF f n p → ∀ M1, FXt t M M1 → Q (some (.inl (-100 - nI p))) M1)
    (kF : ∀ ky ps, TxG f n ky ps → ¬ t < 14 → ∀ M1, FXt t M M1 → Q (some (.inl (-1000000003))) M1)
    (k1 : ∀ ky ps, TxG f n ky ps → t < 14 → ∀ M1, FXt t M M1 → M1 9 t 0 0 = nI ky → M1 9 t 0 2 = nI ps.length → M1 9 t 0 3 = nI (lvN ps) → (∀ k, k < ps.length → M1 10 t 0 k = phi (ps.getD k 0)) → Q (some (.inl (nI t))) (mu M1 1 0 0 12 (nI (t + 1)))) : Td PR d 94 [.inr (0, 0, 0)] M Q := by
  obtain ⟨e, rfl⟩ : ∃ e, d = e + 1 := ⟨d - 1, by omega⟩
  refine td_X9_text ?_
  intro S hS
  iterate 7 refine hS _ _ _ _ ?_
  rw [show gfv M 1 0 0 12 = .inl (nI t) from congrArg Sum.inl et]
  refine ⟨(by first | assumption | exact vp_in_nI (by simp only [alen]; omega) (by decide)), ?_⟩
  try rw [nI_clamp (by omega)]
  iterate 5 refine hS _ _ _ _ ?_
  refine sp_readsText1 (n := n) (f := f) (x := t) (by omega) hn (by omega) hb e1 hf (fun r M1 hr => ?_)
  iterate 11 refine hS _ _ _ _ ?_
  refine And.intro (fun h42 => ?_) (fun h42 => ?_)
  · obtain ⟨-, ky, ps, hp, x1, f1, f2, f3, f4⟩ := hr.resolve_left (fun z => h42 z.1)
    have x2 := x1.t
    have et1 : mu M1 11 0 0 1 0 1 0 0 12 = nI t := by rw [x2.1 1 (by decide) (by decide) (by decide)]; exact et
    iterate 5 refine hS _ _ _ _ ?_
    refine And.intro (fun h59 => ?_) (fun h59 => ?_)
    · rw [et1] at h59
      have ht' : t < 14 := Nat.lt_of_not_le fun y => nI_nlt (a := t) (b := 14) y (by omega) h59
      iterate 13 refine hS _ _ _ _ ?_
      have q := k1 ky ps hp ht' _ x2 (by rw [mz_k (by decide)]; exact f1) (by rw [mz_k (by decide)]; exact f2) (by rw [mz_k (by decide)]; exact f3) (fun k hk => by rw [mz_k (by decide)]; exact f4 k hk)
      rw [nI_succ, ← et1] at q
      refine qv q ?_
      rw [mz_at, Int32.add_sub_cancel]
    · rw [et1] at h59
      iterate 2 refine hS _ _ _ _ ?_
      exact kF ky ps hp (fun z => h59 (nI_lt (b := 14) z (by decide))) _ x2
  · obtain ⟨-, p, hp, x1, ep⟩ := hr.resolve_right (fun z => absurd (h42.symm.trans z.1) (by decide))
    iterate 4 refine hS _ _ _ _ ?_
    exact qv (k0 p hp _ x1.t) (by rw [ep])
end W54
