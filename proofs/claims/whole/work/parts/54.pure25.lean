-- 54.pure25: calls that change how all stands
noncomputable def itP {α : Type} (p : Prop) (a b : α) : α := @ite α p (Classical.propDecidable p) a b
theorem itP_t {α : Type} {p : Prop} {a b : α} (h : p) : itP p a b = a := by unfold itP; rw [if_pos h]
theorem itP_f {α : Type} {p : Prop} {a b : α} (h : ¬ p) : itP p a b = b := by unfold itP; rw [if_neg h]
theorem Fm.rf {M : Mem} : Fm M M := fun _ _ _ _ _ => rfl
theorem Fm.tr {M M' M'' : Mem} (h : Fm M M') (h' : Fm M' M'') : Fm M M'' := fun k a b c d => (h' k a b c d).trans (h k a b c d)
theorem Fm.mu {M : Mem} {i j s : Nat} {v : Int32} : Fm M (mu M 31 i j s v) := fun k a _ _ _ => mz_k a
theorem upd_txe {f : FA} {k : Nat} {v : Int32} (h9 : k ≠ 9) (h86 : k < 86) : TXE f (upd f k v) := ⟨upd_ne (Ne.symm h9), fun j hj => upd_ne (by omega)⟩
theorem wf_lo {f : FA} {k : Nat} {v : Int32} (h : WF 10000 f) (hk : k = 0 ∨ k = 3) : WF 10000 (upd f k v) := by
  obtain ⟨u0, u1, u2, u3⟩ := cn_up (v := v) (k := k) h.1.1 (by omega) (by omega) (by omega)
  refine ⟨⟨u0, (upd_txe (by omega) (by omega)).txf h.1.2.1, by rw [upd_ne (by omega)]; exact h.1.2.2⟩, ?_, ?_, ?_⟩
  · intro p hp
    rw [u2] at hp
    rw [upd_ne (by omega), upd_ne (by omega)]
    exact h.2.1 p hp
  · intro b hb
    rw [u1] at hb
    rw [upd_ne (by omega), upd_ne (by omega), upd_ne (by omega)]
    exact h.2.2.1 b hb
  · intro p hp
    rw [u2] at hp
    rw [upd_ne (by omega)]
    exact h.2.2.2 p hp
theorem wf_one {f : FA} {k : Nat} {v : Int32} {c : Nat} (h : WF 10000 f) (hc : c < 4) {j : Nat} (hk : k = 50 + 4 * j + c) (hj : j < 9) (hv : (c = 0 → isBd 8 v) ∧ (c = 2 → isBd 10 v) ∧ (c = 3 → isBd 2 v)) : WF 10000 (upd f k v) := by
  have kp : KP f (upd f k v) := KP.up (by omega)
  refine ⟨kp.nm h.1, ?_, ?_, ?_⟩
  · intro p hp
    rw [kp.cp] at hp
    have q := h.2.1 p hp
    refine ⟨?_, ?_⟩
    · rw [upd_ap]; split
      · exact hv.2.1 (by omega)
      · exact q.1
    · rw [upd_ap]; split
      · exact hv.2.2 (by omega)
      · exact q.2
  · intro b hb
    rw [kp.cb] at hb
    have := h.1.1.2.1
    rw [upd_ne (by omega), upd_ne (by omega), upd_ne (by omega)]
    exact h.2.2.1 b hb
  · intro p hp
    rw [kp.cp] at hp
    rw [upd_ap]; split
    · exact hv.1 (by omega)
    · exact h.2.2.2 p hp
def addB (f : FA) (k a t o : Int32) : FA := upd (upd (upd (upd (upd f 1 (f 1 + 1)) (10 + 4 * cB f) k) (11 + 4 * cB f) a) (12 + 4 * cB f) t) (13 + 4 * cB f) o
def addP (f : FA) (t h : Int32) : FA := upd (upd (upd (upd (upd f 4 (f 4 + 1)) (50 + 4 * cP f) t) (51 + 4 * cP f) h) (52 + 4 * cP f) 0) (53 + 4 * cP f) 0
section W25
variable {f : FA} {k a t o h : Int32}
theorem addB_ne {j : Nat} (h1 : j ≠ 1) (h2 : j ≠ 10 + 4 * cB f) (h3 : j ≠ 11 + 4 * cB f) (h4 : j ≠ 12 + 4 * cB f) (h5 : j ≠ 13 + 4 * cB f) : addB f k a t o j = f j := by
  unfold addB
  rw [upd_ne h5, upd_ne h4, upd_ne h3, upd_ne h2, upd_ne h1]
theorem addB_1 (hC : CN f) : addB f k a t o 1 = nI (cB f + 1) := by
  unfold addB
  rw [upd_ne (by omega), upd_ne (by omega), upd_ne (by omega), upd_ne (by omega), upd_at, hC.1, nI_succ]
theorem addB_cn (hC : CN f) (hb : cB f < 10) : CN (addB f k a t o) ∧ cB (addB f k a t o) = cB f + 1 ∧ cP (addB f k a t o) = cP f ∧ cT (addB f k a t o) = cT f := by
  have e1 : cB (addB f k a t o) = cB f + 1 := cB_lt (addB_1 hC) (by omega)
  have e4 : addB f k a t o 4 = f 4 := addB_ne (by omega) (by omega) (by omega) (by omega) (by omega)
  have e9 : addB f k a t o 9 = f 9 := addB_ne (by omega) (by omega) (by omega) (by omega) (by omega)
  have ep : cP (addB f k a t o) = cP f := by unfold cP; rw [e4]
  have et : cT (addB f k a t o) = cT f := by unfold cT; rw [e9]
  refine ⟨?_, e1, ep, et⟩
  unfold CN
  rw [e1, ep, et, e4, e9, addB_1 hC]
  exact ⟨rfl, by omega, hC.2.2⟩
theorem addB_tx (hb : cB f < 10) : TXE f (addB f k a t o) := ⟨addB_ne (by omega) (by omega) (by omega) (by omega) (by omega), fun j hj => addB_ne (by omega) (by omega) (by omega) (by omega) (by omega)⟩
theorem addB_wf (hW : WF 10000 f) (hb : cB f < 10) (ha : isBd 8 a) (ht : isBd 8 t) (ho : isBd 8 o) : WF 10000 (addB f k a t o) := by
  obtain ⟨u0, u1, u2, u3⟩ := addB_cn (k := k) (a := a) (t := t) (o := o) hW.1.1 hb
  refine ⟨⟨u0, (addB_tx hb).txf hW.1.2.1, by rw [addB_ne (by omega) (by omega) (by omega) (by omega) (by omega)]; exact hW.1.2.2⟩, ?_, ?_, ?_⟩
  · intro p hp
    rw [u2] at hp
    rw [addB_ne (by omega) (by omega) (by omega) (by omega) (by omega), addB_ne (by omega) (by omega) (by omega) (by omega) (by omega)]
    exact hW.2.1 p hp
  · intro b hb'
    rw [u1] at hb'
    by_cases z : b = cB f
    · subst z
      unfold addB
      rw [upd_ne (show 11 + 4 * cB f ≠ 13 + 4 * cB f by omega), upd_ne (show 11 + 4 * cB f ≠ 12 + 4 * cB f by omega), upd_at, upd_ne (show 12 + 4 * cB f ≠ 13 + 4 * cB f by omega), upd_at, upd_at]
      exact ⟨ha, ht, ho⟩
    · rw [addB_ne (by omega) (by omega) (by omega) (by omega) (by omega), addB_ne (by omega) (by omega) (by omega) (by omega) (by omega), addB_ne (by omega) (by omega) (by omega) (by omega) (by omega)]
      exact hW.2.2.1 b (by omega)
  · intro p hp
    rw [u2] at hp
    rw [addB_ne (by omega) (by omega) (by omega) (by omega) (by omega)]
    exact hW.2.2.2 p hp
theorem addP_ne {j : Nat} (h1 : j ≠ 4) (h2 : j ≠ 50 + 4 * cP f) (h3 : j ≠ 51 + 4 * cP f) (h4 : j ≠ 52 + 4 * cP f) (h5 : j ≠ 53 + 4 * cP f) : addP f t h j = f j := by
  unfold addP
  rw [upd_ne h5, upd_ne h4, upd_ne h3, upd_ne h2, upd_ne h1]
theorem addP_4 (hC : CN f) : addP f t h 4 = nI (cP f + 1) := by
  unfold addP
  rw [upd_ne (by omega), upd_ne (by omega), upd_ne (by omega), upd_ne (by omega), upd_at, hC.2.2.1, nI_succ]
theorem addP_cn (hC : CN f) (hp : cP f < 9) : CN (addP f t h) ∧ cB (addP f t h) = cB f ∧ cP (addP f t h) = cP f + 1 ∧ cT (addP f t h) = cT f := by
  have e4 : cP (addP f t h) = cP f + 1 := cP_lt (addP_4 hC) (by omega)
  have e1 : addP f t h 1 = f 1 := addP_ne (by omega) (by omega) (by omega) (by omega) (by omega)
  have e9 : addP f t h 9 = f 9 := addP_ne (by omega) (by omega) (by omega) (by omega) (by omega)
  have eb : cB (addP f t h) = cB f := by unfold cB; rw [e1]
  have et : cT (addP f t h) = cT f := by unfold cT; rw [e9]
  refine ⟨?_, eb, e4, et⟩
  unfold CN
  rw [e4, eb, et, e1, e9, addP_4 hC]
  exact ⟨hC.1, hC.2.1, rfl, by omega, hC.2.2.2.2⟩
theorem addP_tx (hp : cP f < 9) : TXE f (addP f t h) := ⟨addP_ne (by omega) (by omega) (by omega) (by omega) (by omega), fun j hj => addP_ne (by omega) (by omega) (by omega) (by omega) (by omega)⟩
theorem addP_wf (hW : WF 10000 f) (hp : cP f < 9) (ht : isBd 8 t) : WF 10000 (addP f t h) := by
  obtain ⟨u0, u1, u2, u3⟩ := addP_cn (t := t) (h := h) hW.1.1 hp
  have hb10 := hW.1.1.2.1
  refine ⟨⟨u0, (addP_tx hp).txf hW.1.2.1, by rw [addP_ne (by omega) (by omega) (by omega) (by omega) (by omega)]; exact hW.1.2.2⟩, ?_, ?_, ?_⟩
  · intro p hp'
    rw [u2] at hp'
    by_cases z : p = cP f
    · subst z
      unfold addP
      rw [upd_ne (show 52 + 4 * cP f ≠ 53 + 4 * cP f by omega), upd_at, upd_at]
      exact ⟨⟨0, by omega, rfl⟩, ⟨0, by omega, rfl⟩⟩
    · rw [addP_ne (by omega) (by omega) (by omega) (by omega) (by omega), addP_ne (by omega) (by omega) (by omega) (by omega) (by omega)]
      exact hW.2.1 p (by omega)
  · intro b hb
    rw [u1] at hb
    rw [addP_ne (by omega) (by omega) (by omega) (by omega) (by omega), addP_ne (by omega) (by omega) (by omega) (by omega) (by omega), addP_ne (by omega) (by omega) (by omega) (by omega) (by omega)]
    exact hW.2.2.1 b hb
  · intro p hp'
    rw [u2] at hp'
    by_cases z : p = cP f
    · subst z
      unfold addP
      rw [upd_ne (show 50 + 4 * cP f ≠ 53 + 4 * cP f by omega), upd_ne (show 50 + 4 * cP f ≠ 52 + 4 * cP f by omega), upd_ne (show 50 + 4 * cP f ≠ 51 + 4 * cP f by omega), upd_at]
      exact ht
    · rw [addP_ne (by omega) (by omega) (by omega) (by omega) (by omega)]
      exact hW.2.2.2 p (by omega)
end W25
section W25b
variable {d l b p K : Nat} {M : Mem} {Q : PQ} {f : FA} {k a t o h : Int32}
theorem sp_addBed (hd : 1 ≤ d) (hL : LL M l f) (hb : cB f < 10) (hQ : ∀ M1, Fn l M M1 → LL M1 l (addB f k a t o) → Q (some (.inl (nI (cB f)))) M1) : Td PR d 8 [.inr (1, l, 0), .inl k, .inl a, .inl t, .inl o] M Q := by
  have hC := hL.1
  have e2 := hL.bc
  obtain ⟨u0, u1, u2, u3⟩ := addB_cn (k := k) (a := a) (t := t) (o := o) hC hb
  have e22 : ∀ x, mu (mu (mu (mu (mu M 3 l (cB f) 0 k) 3 l (cB f) 1 a) 3 l (cB f) 2 t) 3 l (cB f) 3 o) 1 l 0 2 x 1 l 0 2 = x := fun x => mz_at
  obtain ⟨e, rfl⟩ : ∃ e, d = e + 1 := ⟨d - 1, by omega⟩
  refine td_X1_addBed ?_
  intro S hS
  iterate 5 refine hS _ _ _ _ ?_
  rw [show gfv M 1 l 0 2 = .inl (nI (cB f)) from congrArg Sum.inl e2]
  refine ⟨(by first | assumption | exact vp_in_nI (by simp only [alen]; omega) (by decide)), ?_⟩
  try rw [nI_clamp (by omega)]
  iterate 24 refine hS _ _ _ _ ?_
  refine qv (hQ _ (((((Fn.mu1 (by omega)).tr (Fn.mu1 (by omega))).tr (Fn.mu1 (by omega))).tr (Fn.mu1 (by omega))).tr (Fn.mu1 (by omega))) ?_) ?_
  · obtain ⟨hc0, ⟨a1, a2, a3, a4, a5, a6, a7, a8, a9, a10⟩, hb', hp'⟩ := hL
    refine ⟨u0, ⟨?_, ?_, ?_, ?_, ?_, ?_, ?_, ?_, ?_, ?_⟩, fun c hc => ?_, fun p hp => ?_⟩
    · rw [mz_at, addB_1 hC, nI_succ]; exact congrArg (· + 1) e2
    any_goals (rw [mz_sl (by decide), addB_ne (by omega) (by omega) (by omega) (by omega) (by omega)]; assumption)
    · rw [u1] at hc
      by_cases z : c = cB f
      · subst z
        unfold addB
        rw [upd_ne (show 10 + 4 * cB f ≠ 13 + 4 * cB f by omega), upd_ne (show 10 + 4 * cB f ≠ 12 + 4 * cB f by omega), upd_ne (show 10 + 4 * cB f ≠ 11 + 4 * cB f by omega), upd_at, upd_ne (show 11 + 4 * cB f ≠ 13 + 4 * cB f by omega), upd_ne (show 11 + 4 * cB f ≠ 12 + 4 * cB f by omega), upd_at, upd_ne (show 12 + 4 * cB f ≠ 13 + 4 * cB f by omega), upd_at, upd_at]
        refine ⟨?_, ?_, ?_, ?_⟩ <;> simp [mu, mr, upd]
      · have q := hb' c (by omega)
        rw [addB_ne (by omega) (by omega) (by omega) (by omega) (by omega), addB_ne (by omega) (by omega) (by omega) (by omega) (by omega), addB_ne (by omega) (by omega) (by omega) (by omega) (by omega), addB_ne (by omega) (by omega) (by omega) (by omega) (by omega)]
        rw [mz_k (by decide), mz_ne (fun y => z y.2.2), mz_ne (fun y => z y.2.2), mz_ne (fun y => z y.2.2), mz_ne (fun y => z y.2.2)]
        exact q
    · rw [u2] at hp
      have q9 := hC.2.2.2.1
      rw [addB_ne (by omega) (by omega) (by omega) (by omega) (by omega), addB_ne (by omega) (by omega) (by omega) (by omega) (by omega), addB_ne (by omega) (by omega) (by omega) (by omega) (by omega), addB_ne (by omega) (by omega) (by omega) (by omega) (by omega)]
      exact hp' p hp
  · rw [mz_at, show ∀ x y z w : Int32, mu (mu (mu (mu M 3 l (cB f) 0 x) 3 l (cB f) 1 y) 3 l (cB f) 2 z) 3 l (cB f) 3 w 1 l 0 2 = M 1 l 0 2 from fun _ _ _ _ => rfl, e2, ← nI_succ, nI_pred]
theorem sp_addOne (hd : 1 ≤ d) (hL : LL M l f) (hp : cP f < 9) (hQ : ∀ M1, Fn l M M1 → LL M1 l (addP f t h) → Q (some (.inl (nI (cP f)))) M1) : Td PR d 9 [.inr (1, l, 0), .inl t, .inl h] M Q := by
  have hC := hL.1
  have e4 := hL.pc
  obtain ⟨u0, u1, u2, u3⟩ := addP_cn (t := t) (h := h) hC hp
  have q10 := hC.2.1
  obtain ⟨e, rfl⟩ : ∃ e, d = e + 1 := ⟨d - 1, by omega⟩
  refine td_X1_addOne ?_
  intro S hS
  iterate 5 refine hS _ _ _ _ ?_
  rw [show gfv M 1 l 0 4 = .inl (nI (cP f)) from congrArg Sum.inl e4]
  refine ⟨(by first | assumption | exact vp_in_nI (by simp only [alen]; omega) (by decide)), ?_⟩
  try rw [nI_clamp (by omega)]
  iterate 24 refine hS _ _ _ _ ?_
  refine qv (hQ _ (((((Fn.mu1 (by omega)).tr (Fn.mu1 (by omega))).tr (Fn.mu1 (by omega))).tr (Fn.mu1 (by omega))).tr (Fn.mu1 (by omega))) ?_) ?_
  · obtain ⟨hc0, ⟨a1, a2, a3, a4, a5, a6, a7, a8, a9, a10⟩, hb', hp'⟩ := hL
    refine ⟨u0, ⟨?_, ?_, ?_, (by rw [mz_at, addP_4 hC, nI_succ]; exact congrArg (· + 1) e4), ?_, ?_, ?_, ?_, ?_, ?_⟩, fun c hc => ?_, fun p hp => ?_⟩
    any_goals (rw [mz_sl (by decide), addP_ne (by omega) (by omega) (by omega) (by omega) (by omega)]; assumption)
    · rw [u1] at hc
      rw [addP_ne (by omega) (by omega) (by omega) (by omega) (by omega), addP_ne (by omega) (by omega) (by omega) (by omega) (by omega), addP_ne (by omega) (by omega) (by omega) (by omega) (by omega), addP_ne (by omega) (by omega) (by omega) (by omega) (by omega)]
      exact hb' c hc
    · rw [u2] at hp
      by_cases z : p = cP f
      · subst z
        unfold addP
        rw [upd_ne (show 50 + 4 * cP f ≠ 53 + 4 * cP f by omega), upd_ne (show 50 + 4 * cP f ≠ 52 + 4 * cP f by omega), upd_ne (show 50 + 4 * cP f ≠ 51 + 4 * cP f by omega), upd_at, upd_ne (show 51 + 4 * cP f ≠ 53 + 4 * cP f by omega), upd_ne (show 51 + 4 * cP f ≠ 52 + 4 * cP f by omega), upd_at, upd_ne (show 52 + 4 * cP f ≠ 53 + 4 * cP f by omega), upd_at, upd_at]
        refine ⟨?_, ?_, ?_, ?_⟩ <;> simp [mu, mr, upd]
      · have q := hp' p (by omega)
        rw [addP_ne (by omega) (by omega) (by omega) (by omega) (by omega), addP_ne (by omega) (by omega) (by omega) (by omega) (by omega), addP_ne (by omega) (by omega) (by omega) (by omega) (by omega), addP_ne (by omega) (by omega) (by omega) (by omega) (by omega)]
        rw [mz_k (by decide), mz_ne (fun y => z y.2.2), mz_ne (fun y => z y.2.2), mz_ne (fun y => z y.2.2), mz_ne (fun y => z y.2.2)]
        exact q
  · rw [mz_at, show ∀ x y z w : Int32, mu (mu (mu (mu M 5 l (cP f) 0 x) 5 l (cP f) 1 y) 5 l (cP f) 2 z) 5 l (cP f) 3 w 1 l 0 4 = M 1 l 0 4 from fun _ _ _ _ => rfl, e4, ← nI_succ, nI_pred]
theorem sm_comes (hd : 2 ≤ d) (hC : CN (M 31 0 0)) (hb : cB (M 31 0 0) < 10) (hQ : ∀ M1, Fm M M1 → M1 31 0 0 = addB (M 31 0 0) k a t o → Q (some (.inl (nI (cB (M 31 0 0))))) M1) : Td PR d 131 [.inr (30, 0, 0), .inl k, .inl a, .inl t, .inl o] M Q := by
  have e1 := hC.1
  obtain ⟨e, rfl⟩ : ∃ e, d = e + 1 := ⟨d - 1, by omega⟩
  refine td_X10_comes ?_
  intro S hS
  iterate 4 refine hS _ _ _ _ ?_
  refine ⟨vp_l rfl, ?_⟩
  rw [show M 31 0 0 (Int32.toNatClampNeg 1) = nI (cB (M 31 0 0)) from e1]
  iterate 6 refine hS _ _ _ _ ?_
  refine ⟨vp_l rfl, ?_⟩
  try rw [show Int32.toNatClampNeg 1 = 1 from rfl]
  iterate 3 refine hS _ _ _ _ ?_
  refine ⟨vp_l rfl, ?_⟩
  try rw [show Int32.toNatClampNeg 1 = 1 from rfl]
  iterate 5 refine hS _ _ _ _ ?_
  refine sm_put0 (by omega) (by omega) ?_
  iterate 5 refine hS _ _ _ _ ?_
  refine sm_put1 (by omega) (by omega) ?_
  iterate 5 refine hS _ _ _ _ ?_
  refine sm_put2 (by omega) (by omega) ?_
  iterate 5 refine hS _ _ _ _ ?_
  refine sm_put3 (by omega) (by omega) ?_
  iterate 2 refine hS _ _ _ _ ?_
  refine hQ _ (((((Fm.mu).tr Fm.mu).tr Fm.mu).tr Fm.mu).tr Fm.mu) ?_
  simp only [upd_mu]
  rfl
end W25b
noncomputable def bedP (f : FA) (k a t o : Int32) : Int32 × FA := itP (isBd 6 k ∧ isBd 8 a ∧ isBd 8 t ∧ isBd 8 o) (if cB f = 10 then (-1000000003, f) else (nI (cB f), addB f k a t o)) (-1000000001, f)
noncomputable def oneP (f : FA) (t h : Int32) : Int32 × FA := itP (isBd 8 t ∧ isBd 8 h) (if cP f = 9 then (-1000000003, f) else (nI (cP f), addP f t h)) (-1000000001, f)
noncomputable def turnsP (f : FA) (b k : Int32) : Int32 × FA := itP (isBd (cB f) b ∧ isBd 6 k) (f (10 + 4 * b.toNatClampNeg), upd f (10 + 4 * b.toNatClampNeg) k) (-1000000001, f)
noncomputable def setP (f : FA) (b w v : Int32) : Int32 × FA := itP (isBd (cB f) b ∧ (¬ w < 1 ∧ ¬ 3 < w) ∧ isBd 8 v) (f (10 + 4 * b.toNatClampNeg + w.toNatClampNeg), upd f (10 + 4 * b.toNatClampNeg + w.toNatClampNeg) v) (-1000000001, f)
noncomputable def carryP (f : FA) (v : Int32) : Int32 × FA := itP (isBd 101 v) (f 3, upd f 3 v) (-1000000001, f)
def seedP (f : FA) (v : Int32) : Int32 × FA := (f 0, upd f 0 v)
def mostI (w : Int32) : Int32 := if w < 2 then 7 else if w = 2 then 9 else 1
noncomputable def sendsP (f : FA) (p w v : Int32) : Int32 × FA := itP (isBd (cP f) p ∧ isBd 4 w ∧ (¬ v < 0 ∧ ¬ mostI w < v)) (f (50 + 4 * p.toNatClampNeg + w.toNatClampNeg), upd f (50 + 4 * p.toNatClampNeg + w.toNatClampNeg) v) (-1000000001, f)
theorem bedP_wf {f : FA} {k a t o : Int32} (hW : WF 10000 f) : WF 10000 (bedP f k a t o).2 ∧ TXE f (bedP f k a t o).2 := by
  have := hW.1.1.2.1
  by_cases h : isBd 6 k ∧ isBd 8 a ∧ isBd 8 t ∧ isBd 8 o
  · rw [bedP, itP_t h]
    split
    · exact ⟨hW, TXE.rf⟩
    · exact ⟨addB_wf hW (by omega) h.2.1 h.2.2.1 h.2.2.2, addB_tx (by omega)⟩
  · rw [bedP, itP_f h]
    exact ⟨hW, TXE.rf⟩
theorem oneP_wf {f : FA} {t h : Int32} (hW : WF 10000 f) : WF 10000 (oneP f t h).2 ∧ TXE f (oneP f t h).2 := by
  have := hW.1.1.2.2.2.1
  by_cases h' : isBd 8 t ∧ isBd 8 h
  · rw [oneP, itP_t h']
    split
    · exact ⟨hW, TXE.rf⟩
    · exact ⟨addP_wf hW (by omega) h'.1, addP_tx (by omega)⟩
  · rw [oneP, itP_f h']
    exact ⟨hW, TXE.rf⟩
theorem turnsP_wf {f : FA} {b k : Int32} (hW : WF 10000 f) : WF 10000 (turnsP f b k).2 ∧ TXE f (turnsP f b k).2 := by
  have := hW.1.1.2.1
  by_cases h : isBd (cB f) b ∧ isBd 6 k
  · rw [turnsP, itP_t h]
    obtain ⟨j, hj, e⟩ := h.1
    rw [e, nI_clamp (by omega)]
    exact ⟨wf_bed hW (by omega) (by omega) (Or.inr ⟨j, rfl⟩), upd_txe (by omega) (by omega)⟩
  · rw [turnsP, itP_f h]
    exact ⟨hW, TXE.rf⟩
theorem w13 {w : Int32} (h : ¬ w < 1 ∧ ¬ 3 < w) : w = 1 ∨ w = 2 ∨ w = 3 := by
  obtain ⟨j, hj, e⟩ : isBd 4 w := (in_bd1 (n := 3) (by omega)).mp ⟨fun z => h.1 (Int32.lt_trans z (by decide)), h.2⟩
  subst e
  have : j ≠ 0 := fun z => h.1 (by rw [z]; decide)
  obtain rfl | rfl | rfl : j = 1 ∨ j = 2 ∨ j = 3 := by omega
  · exact Or.inl rfl
  · exact Or.inr (Or.inl rfl)
  · exact Or.inr (Or.inr rfl)
theorem setP_wf {f : FA} {b w v : Int32} (hW : WF 10000 f) : WF 10000 (setP f b w v).2 ∧ TXE f (setP f b w v).2 := by
  have := hW.1.1.2.1
  by_cases h : isBd (cB f) b ∧ (¬ w < 1 ∧ ¬ 3 < w) ∧ isBd 8 v
  · rw [setP, itP_t h]
    obtain ⟨j, hj, e⟩ := h.1
    rw [e, nI_clamp (by omega)]
    have hw : w.toNatClampNeg < 4 := by
      rcases w13 h.2.1 with z | z | z <;> rw [z] <;> decide
    exact ⟨wf_bed hW (by omega) (by omega) (Or.inl h.2.2), upd_txe (by omega) (by omega)⟩
  · rw [setP, itP_f h]
    exact ⟨hW, TXE.rf⟩
theorem carryP_wf {f : FA} {v : Int32} (hW : WF 10000 f) : WF 10000 (carryP f v).2 ∧ TXE f (carryP f v).2 := by
  by_cases h : isBd 101 v
  · rw [carryP, itP_t h]
    exact ⟨wf_lo hW (Or.inr rfl), upd_txe (by omega) (by omega)⟩
  · rw [carryP, itP_f h]
    exact ⟨hW, TXE.rf⟩
theorem sendsP_wf {f : FA} {p w v : Int32} (hW : WF 10000 f) : WF 10000 (sendsP f p w v).2 ∧ TXE f (sendsP f p w v).2 := by
  have := hW.1.1.2.2.2.1
  by_cases h : isBd (cP f) p ∧ isBd 4 w ∧ (¬ v < 0 ∧ ¬ mostI w < v)
  · rw [sendsP, itP_t h]
    obtain ⟨j, hj, e⟩ := h.1
    obtain ⟨c, hc, e2⟩ := h.2.1
    have h3 := h.2.2
    rw [e, e2, nI_clamp (by omega), nI_clamp (by omega)]
    subst e2
    refine ⟨wf_one (c := c) hW hc rfl (by omega) ⟨fun z => ?_, fun z => ?_, fun z => ?_⟩, upd_txe (by omega) (by omega)⟩
    · subst z; exact (in_bd1 (n := 7) (by omega)).mp h3
    · subst z; exact (in_bd1 (n := 9) (by omega)).mp h3
    · subst z; exact (in_bd1 (n := 1) (by omega)).mp h3
  · rw [sendsP, itP_f h]
    exact ⟨hW, TXE.rf⟩
theorem c_bed {M : Mem} {Q : PQ} {d : Nat} {k a t o : Int32} (hd : 500 ≤ d) (hI : INV M) (hQ : ∀ M1, Fn 0 M M1 → LL M1 0 (bedP (M 31 0 0) k a t o).2 → Q (some (.inl (bedP (M 31 0 0) k a t o).1)) M1) : Td PR d 66 [.inr (0, 0, 0), .inl k, .inl a, .inl t, .inl o] M Q := by
  have hL := hI.ll
  have hC := hI.cn
  have hW := hI.wf
  have hb10 := hL.b10
  have hp9 := hL.p9
  have ht14 := hL.t14
  generalize hV : bedP (M 31 0 0) k a t o = W at hQ
  obtain ⟨e, rfl⟩ : ∃ e, d = e + 1 := ⟨d - 1, by omega⟩
  refine td_X9_bed ?_
  intro S hS
  iterate 2 refine hS _ _ _ _ ?_
  refine sp_isKind (by omega) ?_
  refine hS _ _ _ _ ?_
  refine And.intro (fun h4 => ?_) (fun h4 => ?_)
  · replace h4 := bI_f h4
    iterate 2 refine hS _ _ _ _ ?_
    rw [bedP, itP_f (fun z => h4 z.1)] at hV
    subst hV
    exact hQ _ Fn.rf hL
  · replace h4 := bI_t h4
    iterate 2 refine hS _ _ _ _ ?_
    refine sp_isTown (by omega) ?_
    refine hS _ _ _ _ ?_
    refine And.intro (fun h11 => ?_) (fun h11 => ?_)
    · replace h11 := bI_f h11
      iterate 2 refine hS _ _ _ _ ?_
      rw [bedP, itP_f (fun z => h11 z.2.1)] at hV
      subst hV
      exact hQ _ Fn.rf hL
    · replace h11 := bI_t h11
      iterate 2 refine hS _ _ _ _ ?_
      refine sp_isTown (by omega) ?_
      refine hS _ _ _ _ ?_
      refine And.intro (fun h18 => ?_) (fun h18 => ?_)
      · replace h18 := bI_f h18
        iterate 2 refine hS _ _ _ _ ?_
        rw [bedP, itP_f (fun z => h18 z.2.2.1)] at hV
        subst hV
        exact hQ _ Fn.rf hL
      · replace h18 := bI_t h18
        iterate 2 refine hS _ _ _ _ ?_
        refine sp_isTown (by omega) ?_
        refine hS _ _ _ _ ?_
        refine And.intro (fun h26 => ?_) (fun h26 => ?_)
        · replace h26 := bI_t h26
          rw [bedP, itP_t ⟨h4, h11, h18, h26⟩] at hV
          iterate 5 refine hS _ _ _ _ ?_
          refine And.intro (fun h41 => ?_) (fun h41 => ?_)
          · have h41' := h41
            rw [show M 1 0 0 2 = _ from hL.bc] at h41'
            have hz : cB (M 31 0 0) ≠ 10 := fun z => absurd h41' (by rw [z]; decide)
            rw [if_neg hz] at hV
            subst hV
            iterate 7 refine hS _ _ _ _ ?_
            refine sp_addBed (by omega) hL (by omega) (fun M1 f1 l1 => ?_)
            refine hS _ _ _ _ ?_
            exact hQ M1 f1 l1
          · have h41' := h41
            rw [show M 1 0 0 2 = _ from hL.bc] at h41'
            have hz : cB (M 31 0 0) = 10 := Nat.le_antisymm hb10 (Nat.le_of_not_lt fun z => h41' (nI_lt (b := 10) z (by decide)))
            rw [if_pos hz] at hV
            iterate 2 refine hS _ _ _ _ ?_
            subst hV
            exact hQ _ Fn.rf hL
        · replace h26 := bI_f h26
          iterate 2 refine hS _ _ _ _ ?_
          rw [bedP, itP_f (fun z => h26 z.2.2.2)] at hV
          subst hV
          exact hQ _ Fn.rf hL
theorem m_bed {M : Mem} {Q : PQ} {d : Nat} {k a t o : Int32} (hd : 500 ≤ d) (hW : WF 10000 (M 31 0 0)) (hQ : ∀ M2, Fm M M2 → M2 31 0 0 = (bedP (M 31 0 0) k a t o).2 → Q (some (.inl (bedP (M 31 0 0) k a t o).1)) M2) : Td PR d 132 [.inr (30, 0, 0), .inl k, .inl a, .inl t, .inl o] M Q := by
  have hC := hW.1.1
  have hb10 := hC.2.1
  have hp9 := hC.2.2.2.1
  have ht14 := hC.2.2.2.2.2
  generalize hV : bedP (M 31 0 0) k a t o = W at hQ
  obtain ⟨e, rfl⟩ : ∃ e, d = e + 1 := ⟨d - 1, by omega⟩
  refine td_X10_bed ?_
  intro S hS
  iterate 4 refine hS _ _ _ _ ?_
  refine sm_in (by omega) ?_
  refine hS _ _ _ _ ?_
  refine And.intro (fun h6 => ?_) (fun h6 => ?_)
  · replace h6 := bI_f h6
    iterate 2 refine hS _ _ _ _ ?_
    rw [bedP, itP_f (fun z => h6 ((in_bd1 (n := 5) (by omega)).mpr z.1))] at hV
    subst hV
    exact hQ _ Fm.rf rfl
  · replace h6 := bI_t h6
    iterate 2 refine hS _ _ _ _ ?_
    refine sm_isTown (by omega) ?_
    refine hS _ _ _ _ ?_
    refine And.intro (fun h13 => ?_) (fun h13 => ?_)
    · replace h13 := bI_f h13
      iterate 2 refine hS _ _ _ _ ?_
      rw [bedP, itP_f (fun z => h13 z.2.1)] at hV
      subst hV
      exact hQ _ Fm.rf rfl
    · replace h13 := bI_t h13
      iterate 2 refine hS _ _ _ _ ?_
      refine sm_isTown (by omega) ?_
      refine hS _ _ _ _ ?_
      refine And.intro (fun h20 => ?_) (fun h20 => ?_)
      · replace h20 := bI_f h20
        iterate 2 refine hS _ _ _ _ ?_
        rw [bedP, itP_f (fun z => h20 z.2.2.1)] at hV
        subst hV
        exact hQ _ Fm.rf rfl
      · replace h20 := bI_t h20
        iterate 2 refine hS _ _ _ _ ?_
        refine sm_isTown (by omega) ?_
        refine hS _ _ _ _ ?_
        refine And.intro (fun h28 => ?_) (fun h28 => ?_)
        · replace h28 := bI_t h28
          rw [bedP, itP_t ⟨(in_bd1 (n := 5) (by omega)).mp h6, h13, h20, h28⟩] at hV
          iterate 4 refine hS _ _ _ _ ?_
          refine ⟨vp_l rfl, ?_⟩
          try rw [show Int32.toNatClampNeg 1 = 1 from rfl]
          iterate 2 refine hS _ _ _ _ ?_
          refine And.intro (fun h42 => ?_) (fun h42 => ?_)
          · have hz : cB (M 31 0 0) ≠ 10 := fun z => h42 (by rw [show M 31 0 0 1 = nI (cB (M 31 0 0)) from hC.1, z]; rfl)
            rw [if_neg hz] at hV
            subst hV
            iterate 6 refine hS _ _ _ _ ?_
            refine sm_comes (by omega) hC (by omega) (fun M1 f1 e1 => ?_)
            refine hS _ _ _ _ ?_
            exact hQ M1 f1 e1
          · have h42' : nI (cB (M 31 0 0)) = nI 10 := by rw [← hC.1]; exact h42
            rw [if_pos ((nI_eq (by omega) (by decide)).mp h42')] at hV
            iterate 3 refine hS _ _ _ _ ?_
            subst hV
            exact hQ _ Fm.rf rfl
        · replace h28 := bI_f h28
          iterate 2 refine hS _ _ _ _ ?_
          rw [bedP, itP_f (fun z => h28 z.2.2.2)] at hV
          subst hV
          exact hQ _ Fm.rf rfl
theorem op_bed {k a t o : Int32} : OpOK 66 132 [.inl k, .inl a, .inl t, .inl o] := op_n (fun M => (bedP (M 31 0 0) k a t o).1) (fun M => (bedP (M 31 0 0) k a t o).2) (fun M Q d hd hI hQ => c_bed hd hI hQ) (fun M M1 Q d hd hI f1 hQ => by
    have e : M1 31 0 0 = M 31 0 0 := by rw [f1.kd (by decide) (by decide) (by decide) (by decide)]
    rw [← e] at hQ
    exact m_bed hd (by rw [e]; exact hI.wf) hQ) (fun M hI => bedP_wf hI.wf)
theorem c_one {M : Mem} {Q : PQ} {d : Nat} {t h : Int32} (hd : 500 ≤ d) (hI : INV M) (hQ : ∀ M1, Fn 0 M M1 → LL M1 0 (oneP (M 31 0 0) t h).2 → Q (some (.inl (oneP (M 31 0 0) t h).1)) M1) : Td PR d 74 [.inr (0, 0, 0), .inl t, .inl h] M Q := by
  have hL := hI.ll
  have hC := hI.cn
  have hW := hI.wf
  have hb10 := hL.b10
  have hp9 := hL.p9
  have ht14 := hL.t14
  generalize hV : oneP (M 31 0 0) t h = W at hQ
  obtain ⟨e, rfl⟩ : ∃ e, d = e + 1 := ⟨d - 1, by omega⟩
  refine td_X9_one ?_
  intro S hS
  iterate 2 refine hS _ _ _ _ ?_
  refine sp_isTown (by omega) ?_
  refine hS _ _ _ _ ?_
  refine And.intro (fun h4 => ?_) (fun h4 => ?_)
  · replace h4 := bI_f h4
    iterate 2 refine hS _ _ _ _ ?_
    rw [oneP, itP_f (fun z => h4 z.1)] at hV
    subst hV
    exact hQ _ Fn.rf hL
  · replace h4 := bI_t h4
    iterate 2 refine hS _ _ _ _ ?_
    refine sp_isTown (by omega) ?_
    refine hS _ _ _ _ ?_
    refine And.intro (fun h11 => ?_) (fun h11 => ?_)
    · replace h11 := bI_t h11
      rw [oneP, itP_t ⟨h4, h11⟩] at hV
      iterate 5 refine hS _ _ _ _ ?_
      refine And.intro (fun h26 => ?_) (fun h26 => ?_)
      · have h26' := h26
        rw [show M 1 0 0 4 = _ from hL.pc] at h26'
        have hz : cP (M 31 0 0) ≠ 9 := fun z => absurd h26' (by rw [z]; decide)
        rw [if_neg hz] at hV
        subst hV
        iterate 5 refine hS _ _ _ _ ?_
        refine sp_addOne (by omega) hL (by omega) (fun M1 f1 l1 => ?_)
        refine hS _ _ _ _ ?_
        exact hQ M1 f1 l1
      · have h26' := h26
        rw [show M 1 0 0 4 = _ from hL.pc] at h26'
        have hz : cP (M 31 0 0) = 9 := Nat.le_antisymm hp9 (Nat.le_of_not_lt fun z => h26' (nI_lt (b := 9) z (by decide)))
        rw [if_pos hz] at hV
        iterate 2 refine hS _ _ _ _ ?_
        subst hV
        exact hQ _ Fn.rf hL
    · replace h11 := bI_f h11
      iterate 2 refine hS _ _ _ _ ?_
      rw [oneP, itP_f (fun z => h11 z.2)] at hV
      subst hV
      exact hQ _ Fn.rf hL
theorem m_one {M : Mem} {Q : PQ} {d : Nat} {t h : Int32} (hd : 500 ≤ d) (hW : WF 10000 (M 31 0 0)) (hQ : ∀ M2, Fm M M2 → M2 31 0 0 = (oneP (M 31 0 0) t h).2 → Q (some (.inl (oneP (M 31 0 0) t h).1)) M2) : Td PR d 146 [.inr (30, 0, 0), .inl t, .inl h] M Q := by
  have hC := hW.1.1
  have hb10 := hC.2.1
  have hp9 := hC.2.2.2.1
  have ht14 := hC.2.2.2.2.2
  generalize hV : oneP (M 31 0 0) t h = W at hQ
  obtain ⟨e, rfl⟩ : ∃ e, d = e + 1 := ⟨d - 1, by omega⟩
  refine td_X10_one ?_
  intro S hS
  iterate 2 refine hS _ _ _ _ ?_
  refine sm_isTown (by omega) ?_
  refine hS _ _ _ _ ?_
  refine And.intro (fun h4 => ?_) (fun h4 => ?_)
  · replace h4 := bI_f h4
    iterate 2 refine hS _ _ _ _ ?_
    rw [oneP, itP_f (fun z => h4 z.1)] at hV
    subst hV
    exact hQ _ Fm.rf rfl
  · replace h4 := bI_t h4
    iterate 2 refine hS _ _ _ _ ?_
    refine sm_isTown (by omega) ?_
    refine hS _ _ _ _ ?_
    refine And.intro (fun h11 => ?_) (fun h11 => ?_)
    · replace h11 := bI_t h11
      rw [oneP, itP_t ⟨h4, h11⟩] at hV
      have h4' := hC.2.2.1
      iterate 4 refine hS _ _ _ _ ?_
      refine ⟨vp_l rfl, ?_⟩
      rw [show M 31 0 0 (Int32.toNatClampNeg 4) = nI (cP (M 31 0 0)) from h4']
      iterate 4 refine hS _ _ _ _ ?_
      refine And.intro (fun h27 => ?_) (fun h27 => ?_)
      · have hz : cP (M 31 0 0) ≠ 9 := fun z => h27 (by rw [z]; rfl)
        rw [if_neg hz] at hV
        subst hV
        iterate 5 refine hS _ _ _ _ ?_
        refine ⟨vp_l rfl, ?_⟩
        try rw [show Int32.toNatClampNeg 4 = 4 from rfl]
        iterate 3 refine hS _ _ _ _ ?_
        refine ⟨vp_l rfl, ?_⟩
        try rw [show Int32.toNatClampNeg 4 = 4 from rfl]
        iterate 5 refine hS _ _ _ _ ?_
        refine sm_lays0 (by omega) (by omega) ?_
        iterate 5 refine hS _ _ _ _ ?_
        refine sm_lays1 (by omega) (by omega) ?_
        iterate 5 refine hS _ _ _ _ ?_
        refine sm_lays2 (by omega) (by omega) ?_
        iterate 5 refine hS _ _ _ _ ?_
        refine sm_lays3 (by omega) (by omega) ?_
        iterate 2 refine hS _ _ _ _ ?_
        refine hQ _ (((((Fm.mu).tr Fm.mu).tr Fm.mu).tr Fm.mu).tr Fm.mu) ?_
        simp only [upd_mu]
        rfl
      · rw [if_pos ((nI_eq (b := 9) (by omega) (by decide)).mp h27)] at hV
        iterate 2 refine hS _ _ _ _ ?_
        subst hV
        exact hQ _ Fm.rf rfl
    · replace h11 := bI_f h11
      iterate 2 refine hS _ _ _ _ ?_
      rw [oneP, itP_f (fun z => h11 z.2)] at hV
      subst hV
      exact hQ _ Fm.rf rfl
theorem op_one {t h : Int32} : OpOK 74 146 [.inl t, .inl h] := op_n (fun M => (oneP (M 31 0 0) t h).1) (fun M => (oneP (M 31 0 0) t h).2) (fun M Q d hd hI hQ => c_one hd hI hQ) (fun M M1 Q d hd hI f1 hQ => by
    have e : M1 31 0 0 = M 31 0 0 := by rw [f1.kd (by decide) (by decide) (by decide) (by decide)]
    rw [← e] at hQ
    exact m_one hd (by rw [e]; exact hI.wf) hQ) (fun M hI => oneP_wf hI.wf)
theorem c_turns {M : Mem} {Q : PQ} {d : Nat} {b k : Int32} (hd : 500 ≤ d) (hI : INV M) (hQ : ∀ M1, Fn 0 M M1 → LL M1 0 (turnsP (M 31 0 0) b k).2 → Q (some (.inl (turnsP (M 31 0 0) b k).1)) M1) : Td PR d 69 [.inr (0, 0, 0), .inl b, .inl k] M Q := by
  have hL := hI.ll
  have hC := hI.cn
  have hW := hI.wf
  have hb10 := hL.b10
  have hp9 := hL.p9
  have ht14 := hL.t14
  generalize hV : turnsP (M 31 0 0) b k = W at hQ
  obtain ⟨e, rfl⟩ : ∃ e, d = e + 1 := ⟨d - 1, by omega⟩
  refine td_X9_turns ?_
  intro S hS
  iterate 3 refine hS _ _ _ _ ?_
  refine sp_isBed (by omega) hL ?_
  refine hS _ _ _ _ ?_
  refine And.intro (fun h5 => ?_) (fun h5 => ?_)
  · replace h5 := bI_f h5
    iterate 2 refine hS _ _ _ _ ?_
    rw [turnsP, itP_f (fun z => h5 z.1)] at hV
    subst hV
    exact hQ _ Fn.rf hL
  · replace h5 := bI_t h5
    iterate 2 refine hS _ _ _ _ ?_
    refine sp_isKind (by omega) ?_
    refine hS _ _ _ _ ?_
    refine And.intro (fun h12 => ?_) (fun h12 => ?_)
    · replace h12 := bI_t h12
      rw [turnsP, itP_t ⟨h5, h12⟩] at hV
      obtain ⟨j, hj, rfl⟩ := h5
      rw [nI_clamp (by omega)] at hV
      subst hV
      iterate 5 refine hS _ _ _ _ ?_
      refine ⟨(by first | assumption | exact vp_in_nI (by simp only [alen]; omega) (by decide)), ?_⟩
      try rw [nI_clamp (by omega)]
      iterate 9 refine hS _ _ _ _ ?_
      exact qv (hQ _ (Fn.mu1 (by omega)) (hL.b0 hj)) (hL.kind hj).symm
    · replace h12 := bI_f h12
      iterate 2 refine hS _ _ _ _ ?_
      rw [turnsP, itP_f (fun z => h12 z.2)] at hV
      subst hV
      exact hQ _ Fn.rf hL
theorem m_turns {M : Mem} {Q : PQ} {d : Nat} {b k : Int32} (hd : 500 ≤ d) (hW : WF 10000 (M 31 0 0)) (hQ : ∀ M2, Fm M M2 → M2 31 0 0 = (turnsP (M 31 0 0) b k).2 → Q (some (.inl (turnsP (M 31 0 0) b k).1)) M2) : Td PR d 140 [.inr (30, 0, 0), .inl b, .inl k] M Q := by
  have hC := hW.1.1
  have hb10 := hC.2.1
  have hp9 := hC.2.2.2.1
  have ht14 := hC.2.2.2.2.2
  generalize hV : turnsP (M 31 0 0) b k = W at hQ
  obtain ⟨e, rfl⟩ : ∃ e, d = e + 1 := ⟨d - 1, by omega⟩
  refine td_X10_turns ?_
  intro S hS
  iterate 3 refine hS _ _ _ _ ?_
  refine sm_isBed (by omega) hC ?_
  refine hS _ _ _ _ ?_
  refine And.intro (fun h5 => ?_) (fun h5 => ?_)
  · replace h5 := bI_f h5
    iterate 2 refine hS _ _ _ _ ?_
    rw [turnsP, itP_f (fun z => h5 z.1)] at hV
    subst hV
    exact hQ _ Fm.rf rfl
  · replace h5 := bI_t h5
    iterate 4 refine hS _ _ _ _ ?_
    refine sm_in (by omega) ?_
    refine hS _ _ _ _ ?_
    refine And.intro (fun h14 => ?_) (fun h14 => ?_)
    · replace h14 := bI_f h14
      iterate 2 refine hS _ _ _ _ ?_
      rw [turnsP, itP_f (fun z => h14 ((in_bd1 (n := 5) (by omega)).mpr z.2))] at hV
      subst hV
      exact hQ _ Fm.rf rfl
    · replace h14 := bI_t h14
      rw [turnsP, itP_t ⟨h5, (in_bd1 (n := 5) (by omega)).mp h14⟩] at hV
      obtain ⟨j, hj, rfl⟩ := h5
      rw [nI_clamp (by omega)] at hV
      subst hV
      have ix : (10 : Int32) + 4 * nI j = nI (10 + 4 * j) := by
        show nI 10 + nI 4 * nI j = _
        rw [nI_mul, nI_add]
      iterate 8 refine hS _ _ _ _ ?_
      rw [ix]
      refine sm_swaps (by omega) (by omega) ?_
      iterate 2 refine hS _ _ _ _ ?_
      exact hQ _ Fm.mu upd_mu
theorem op_turns {b k : Int32} : OpOK 69 140 [.inl b, .inl k] := op_n (fun M => (turnsP (M 31 0 0) b k).1) (fun M => (turnsP (M 31 0 0) b k).2) (fun M Q d hd hI hQ => c_turns hd hI hQ) (fun M M1 Q d hd hI f1 hQ => by
    have e : M1 31 0 0 = M 31 0 0 := by rw [f1.kd (by decide) (by decide) (by decide) (by decide)]
    rw [← e] at hQ
    exact m_turns hd (by rw [e]; exact hI.wf) hQ) (fun M hI => turnsP_wf hI.wf)
theorem c_set {M : Mem} {Q : PQ} {d : Nat} {b w v : Int32} (hd : 500 ≤ d) (hI : INV M) (hQ : ∀ M1, Fn 0 M M1 → LL M1 0 (setP (M 31 0 0) b w v).2 → Q (some (.inl (setP (M 31 0 0) b w v).1)) M1) : Td PR d 70 [.inr (0, 0, 0), .inl b, .inl w, .inl v] M Q := by
  have hL := hI.ll
  have hC := hI.cn
  have hW := hI.wf
  have hb10 := hL.b10
  have hp9 := hL.p9
  have ht14 := hL.t14
  generalize hV : setP (M 31 0 0) b w v = W at hQ
  obtain ⟨e, rfl⟩ : ∃ e, d = e + 1 := ⟨d - 1, by omega⟩
  refine td_X9_set ?_
  intro S hS
  iterate 3 refine hS _ _ _ _ ?_
  refine sp_isBed (by omega) hL ?_
  refine hS _ _ _ _ ?_
  refine And.intro (fun h5 => ?_) (fun h5 => ?_)
  · replace h5 := bI_f h5
    iterate 2 refine hS _ _ _ _ ?_
    rw [setP, itP_f (fun z => h5 z.1)] at hV
    subst hV
    exact hQ _ Fn.rf hL
  · replace h5 := bI_t h5
    iterate 3 refine hS _ _ _ _ ?_
    refine And.intro (fun h10 => ?_) (fun h10 => ?_)
    · iterate 2 refine hS _ _ _ _ ?_
      rw [setP, itP_f (fun z => z.2.1.1 h10)] at hV
      subst hV
      exact hQ _ Fn.rf hL
    · iterate 3 refine hS _ _ _ _ ?_
      refine And.intro (fun h15 => ?_) (fun h15 => ?_)
      · iterate 2 refine hS _ _ _ _ ?_
        rw [setP, itP_f (fun z => z.2.1.2 h15)] at hV
        subst hV
        exact hQ _ Fn.rf hL
      · iterate 2 refine hS _ _ _ _ ?_
        refine sp_isTown (by omega) ?_
        refine hS _ _ _ _ ?_
        refine And.intro (fun h22 => ?_) (fun h22 => ?_)
        · replace h22 := bI_t h22
          rw [setP, itP_t ⟨h5, ⟨h10, h15⟩, h22⟩] at hV
          have hw := w13 ⟨h10, h15⟩
          obtain ⟨j, hj, rfl⟩ := h5
          rw [nI_clamp (by omega)] at hV
          iterate 5 refine hS _ _ _ _ ?_
          refine ⟨(by first | assumption | exact vp_in_nI (by simp only [alen]; omega) (by decide)), ?_⟩
          try rw [nI_clamp (by omega)]
          iterate 4 refine hS _ _ _ _ ?_
          refine And.intro (fun h41 => ?_) (fun h41 => ?_)
          · iterate 3 refine hS _ _ _ _ ?_
            refine And.intro (fun h62 => ?_) (fun h62 => ?_)
            · have h3 := (hw.resolve_left h41).resolve_left h62
              subst h3
              rw [show 10 + 4 * j + Int32.toNatClampNeg 3 = 13 + 4 * j by rw [show Int32.toNatClampNeg 3 = 3 from rfl]; omega] at hV
              subst hV
              iterate 8 refine hS _ _ _ _ ?_
              exact qv (hQ _ (Fn.mu1 (by omega)) (hL.b3 hj)) (hL.other hj).symm
            · subst h62
              rw [show 10 + 4 * j + Int32.toNatClampNeg 2 = 12 + 4 * j by rw [show Int32.toNatClampNeg 2 = 2 from rfl]; omega] at hV
              subst hV
              iterate 9 refine hS _ _ _ _ ?_
              exact qv (hQ _ (Fn.mu1 (by omega)) (hL.b2 hj)) (hL.to hj).symm
          · subst h41
            rw [show 10 + 4 * j + Int32.toNatClampNeg 1 = 11 + 4 * j by rw [show Int32.toNatClampNeg 1 = 1 from rfl]; omega] at hV
            subst hV
            iterate 9 refine hS _ _ _ _ ?_
            exact qv (hQ _ (Fn.mu1 (by omega)) (hL.b1 hj)) (hL.at hj).symm
        · replace h22 := bI_f h22
          iterate 2 refine hS _ _ _ _ ?_
          rw [setP, itP_f (fun z => h22 z.2.2)] at hV
          subst hV
          exact hQ _ Fn.rf hL
theorem m_set {M : Mem} {Q : PQ} {d : Nat} {b w v : Int32} (hd : 500 ≤ d) (hW : WF 10000 (M 31 0 0)) (hQ : ∀ M2, Fm M M2 → M2 31 0 0 = (setP (M 31 0 0) b w v).2 → Q (some (.inl (setP (M 31 0 0) b w v).1)) M2) : Td PR d 141 [.inr (30, 0, 0), .inl b, .inl w, .inl v] M Q := by
  have hC := hW.1.1
  have hb10 := hC.2.1
  have hp9 := hC.2.2.2.1
  have ht14 := hC.2.2.2.2.2
  generalize hV : setP (M 31 0 0) b w v = W at hQ
  obtain ⟨e, rfl⟩ : ∃ e, d = e + 1 := ⟨d - 1, by omega⟩
  refine td_X10_set ?_
  intro S hS
  iterate 3 refine hS _ _ _ _ ?_
  refine sm_isBed (by omega) hC ?_
  refine hS _ _ _ _ ?_
  refine And.intro (fun h5 => ?_) (fun h5 => ?_)
  · replace h5 := bI_f h5
    iterate 2 refine hS _ _ _ _ ?_
    rw [setP, itP_f (fun z => h5 z.1)] at hV
    subst hV
    exact hQ _ Fm.rf rfl
  · replace h5 := bI_t h5
    iterate 4 refine hS _ _ _ _ ?_
    refine sm_in (by omega) ?_
    refine hS _ _ _ _ ?_
    refine And.intro (fun h14 => ?_) (fun h14 => ?_)
    · replace h14 := bI_f h14
      iterate 2 refine hS _ _ _ _ ?_
      rw [setP, itP_f (fun z => h14 z.2.1)] at hV
      subst hV
      exact hQ _ Fm.rf rfl
    · replace h14 := bI_t h14
      iterate 2 refine hS _ _ _ _ ?_
      refine sm_isTown (by omega) ?_
      refine hS _ _ _ _ ?_
      refine And.intro (fun h21 => ?_) (fun h21 => ?_)
      · replace h21 := bI_f h21
        iterate 2 refine hS _ _ _ _ ?_
        rw [setP, itP_f (fun z => h21 z.2.2)] at hV
        subst hV
        exact hQ _ Fm.rf rfl
      · replace h21 := bI_t h21
        rw [setP, itP_t ⟨h5, h14, h21⟩] at hV
        have hw := w13 h14
        obtain ⟨j, hj, rfl⟩ := h5
        rw [nI_clamp (by omega)] at hV
        have hw4 : w.toNatClampNeg < 4 := by
          rcases hw with z | z | z <;> rw [z] <;> decide
        have ix : (10 : Int32) + 4 * nI j + w = nI (10 + 4 * j + w.toNatClampNeg) := by
          have ew : w = nI w.toNatClampNeg := by rcases hw with z | z | z <;> rw [z] <;> rfl
          rw [ew, nI_clamp (by omega)]
          show nI 10 + nI 4 * nI j + _ = _
          rw [nI_mul, nI_add, nI_add]
        subst hV
        iterate 10 refine hS _ _ _ _ ?_
        rw [ix]
        refine sm_swaps (by omega) (by omega) ?_
        iterate 2 refine hS _ _ _ _ ?_
        exact hQ _ Fm.mu upd_mu
theorem op_set {b w v : Int32} : OpOK 70 141 [.inl b, .inl w, .inl v] := op_n (fun M => (setP (M 31 0 0) b w v).1) (fun M => (setP (M 31 0 0) b w v).2) (fun M Q d hd hI hQ => c_set hd hI hQ) (fun M M1 Q d hd hI f1 hQ => by
    have e : M1 31 0 0 = M 31 0 0 := by rw [f1.kd (by decide) (by decide) (by decide) (by decide)]
    rw [← e] at hQ
    exact m_set hd (by rw [e]; exact hI.wf) hQ) (fun M hI => setP_wf hI.wf)
theorem c_carry {M : Mem} {Q : PQ} {d : Nat} {v : Int32} (hd : 500 ≤ d) (hI : INV M) (hQ : ∀ M1, Fn 0 M M1 → LL M1 0 (carryP (M 31 0 0) v).2 → Q (some (.inl (carryP (M 31 0 0) v).1)) M1) : Td PR d 71 [.inr (0, 0, 0), .inl v] M Q := by
  have hL := hI.ll
  have hC := hI.cn
  have hW := hI.wf
  have hb10 := hL.b10
  have hp9 := hL.p9
  have ht14 := hL.t14
  generalize hV : carryP (M 31 0 0) v = W at hQ
  obtain ⟨e, rfl⟩ : ∃ e, d = e + 1 := ⟨d - 1, by omega⟩
  refine td_X9_carry ?_
  intro S hS
  iterate 2 refine hS _ _ _ _ ?_
  refine And.intro (fun h1 => ?_) (fun h1 => ?_)
  · iterate 2 refine hS _ _ _ _ ?_
    rw [carryP, itP_f (fun z => isBd_lo h1 (by omega) z)] at hV
    subst hV
    exact hQ _ Fn.rf hL
  · iterate 3 refine hS _ _ _ _ ?_
    refine And.intro (fun h7 => ?_) (fun h7 => ?_)
    · rw [carryP, itP_t ((in_bd1 (n := 100) (by omega)).mp ⟨h1, Int32.not_lt.mpr h7⟩)] at hV
      subst hV
      iterate 10 refine hS _ _ _ _ ?_
      exact qv (hQ _ (Fn.mu1 (by omega)) hL.w5) hL.carry.symm
    · iterate 2 refine hS _ _ _ _ ?_
      rw [carryP, itP_f (fun z => ((in_bd1 (n := 100) (by omega)).mpr z).2 (nle_lt h7))] at hV
      subst hV
      exact hQ _ Fn.rf hL
theorem m_carry {M : Mem} {Q : PQ} {d : Nat} {v : Int32} (hd : 500 ≤ d) (hW : WF 10000 (M 31 0 0)) (hQ : ∀ M2, Fm M M2 → M2 31 0 0 = (carryP (M 31 0 0) v).2 → Q (some (.inl (carryP (M 31 0 0) v).1)) M2) : Td PR d 142 [.inr (30, 0, 0), .inl v] M Q := by
  have hC := hW.1.1
  have hb10 := hC.2.1
  have hp9 := hC.2.2.2.1
  have ht14 := hC.2.2.2.2.2
  generalize hV : carryP (M 31 0 0) v = W at hQ
  obtain ⟨e, rfl⟩ : ∃ e, d = e + 1 := ⟨d - 1, by omega⟩
  refine td_X10_carry ?_
  intro S hS
  iterate 4 refine hS _ _ _ _ ?_
  refine sm_in (by omega) ?_
  refine hS _ _ _ _ ?_
  refine And.intro (fun h7 => ?_) (fun h7 => ?_)
  · replace h7 := bI_f h7
    iterate 2 refine hS _ _ _ _ ?_
    rw [carryP, itP_f (fun z => h7 ((in_bd1 (n := 100) (by omega)).mpr z))] at hV
    subst hV
    exact hQ _ Fm.rf rfl
  · replace h7 := bI_t h7
    rw [carryP, itP_t ((in_bd1 (n := 100) (by omega)).mp h7)] at hV
    subst hV
    iterate 4 refine hS _ _ _ _ ?_
    refine sm_swaps (k := 3) (by omega) (by omega) ?_
    iterate 2 refine hS _ _ _ _ ?_
    exact hQ _ Fm.mu upd_mu
theorem op_carry {v : Int32} : OpOK 71 142 [.inl v] := op_n (fun M => (carryP (M 31 0 0) v).1) (fun M => (carryP (M 31 0 0) v).2) (fun M Q d hd hI hQ => c_carry hd hI hQ) (fun M M1 Q d hd hI f1 hQ => by
    have e : M1 31 0 0 = M 31 0 0 := by rw [f1.kd (by decide) (by decide) (by decide) (by decide)]
    rw [← e] at hQ
    exact m_carry hd (by rw [e]; exact hI.wf) hQ) (fun M hI => carryP_wf hI.wf)
theorem c_seed {M : Mem} {Q : PQ} {d : Nat} {v : Int32} (hd : 500 ≤ d) (hI : INV M) (hQ : ∀ M1, Fn 0 M M1 → LL M1 0 (seedP (M 31 0 0) v).2 → Q (some (.inl (seedP (M 31 0 0) v).1)) M1) : Td PR d 73 [.inr (0, 0, 0), .inl v] M Q := by
  have hL := hI.ll
  have hC := hI.cn
  have hW := hI.wf
  have hb10 := hL.b10
  have hp9 := hL.p9
  have ht14 := hL.t14
  generalize hV : seedP (M 31 0 0) v = W at hQ
  obtain ⟨e, rfl⟩ : ∃ e, d = e + 1 := ⟨d - 1, by omega⟩
  refine td_X9_seed ?_
  intro S hS
  iterate 10 refine hS _ _ _ _ ?_
  subst hV
  exact qv (hQ _ (Fn.mu1 (by omega)) hL.w11) hL.z.symm
theorem m_seed {M : Mem} {Q : PQ} {d : Nat} {v : Int32} (hd : 500 ≤ d) (hW : WF 10000 (M 31 0 0)) (hQ : ∀ M2, Fm M M2 → M2 31 0 0 = (seedP (M 31 0 0) v).2 → Q (some (.inl (seedP (M 31 0 0) v).1)) M2) : Td PR d 145 [.inr (30, 0, 0), .inl v] M Q := by
  have hC := hW.1.1
  have hb10 := hC.2.1
  have hp9 := hC.2.2.2.1
  have ht14 := hC.2.2.2.2.2
  generalize hV : seedP (M 31 0 0) v = W at hQ
  obtain ⟨e, rfl⟩ : ∃ e, d = e + 1 := ⟨d - 1, by omega⟩
  refine td_X10_seed ?_
  intro S hS
  iterate 4 refine hS _ _ _ _ ?_
  refine sm_swaps (k := 0) (by omega) (by omega) ?_
  refine hS _ _ _ _ ?_
  subst hV
  exact hQ _ Fm.mu upd_mu
theorem op_seed {v : Int32} : OpOK 73 145 [.inl v] := op_n (fun M => (seedP (M 31 0 0) v).1) (fun M => (seedP (M 31 0 0) v).2) (fun M Q d hd hI hQ => c_seed hd hI hQ) (fun M M1 Q d hd hI f1 hQ => by
    have e : M1 31 0 0 = M 31 0 0 := by rw [f1.kd (by decide) (by decide) (by decide) (by decide)]
    rw [← e] at hQ
    exact m_seed hd (by rw [e]; exact hI.wf) hQ) (fun M hI => ⟨wf_lo hI.wf (Or.inl rfl), upd_txe (by omega) (by omega)⟩)
theorem sp_mostOfOne {d : Nat} {M : Mem} {Q : PQ} {w : Int32} (hd : 1 ≤ d) (hQ : Q (some (.inl (mostI w))) M) : Td PR d 117 [.inl w] M Q := by
  obtain ⟨e, rfl⟩ : ∃ e, d = e + 1 := ⟨d - 1, by omega⟩
  refine td_X9_mostOfOne ?_
  intro S hS
  iterate 3 refine hS _ _ _ _ ?_
  refine And.intro (fun h2 => ?_) (fun h2 => ?_)
  · have h2' := Int32.not_lt.mpr h2
    iterate 3 refine hS _ _ _ _ ?_
    refine And.intro (fun h10 => ?_) (fun h10 => ?_)
    · iterate 2 refine hS _ _ _ _ ?_
      refine qv hQ ?_
      unfold mostI
      rw [if_neg h2', if_neg h10]
    · iterate 3 refine hS _ _ _ _ ?_
      refine qv hQ ?_
      unfold mostI
      rw [if_neg h2', if_pos h10]
  · have h2' := nle_lt h2
    iterate 2 refine hS _ _ _ _ ?_
    refine qv hQ ?_
    unfold mostI
    rw [if_pos h2']
theorem c_sends {M : Mem} {Q : PQ} {d : Nat} {p w v : Int32} (hd : 500 ≤ d) (hI : INV M) (hQ : ∀ M1, Fn 0 M M1 → LL M1 0 (sendsP (M 31 0 0) p w v).2 → Q (some (.inl (sendsP (M 31 0 0) p w v).1)) M1) : Td PR d 76 [.inr (0, 0, 0), .inl p, .inl w, .inl v] M Q := by
  have hL := hI.ll
  have hC := hI.cn
  have hW := hI.wf
  have hb10 := hL.b10
  have hp9 := hL.p9
  have ht14 := hL.t14
  generalize hV : sendsP (M 31 0 0) p w v = W at hQ
  obtain ⟨e, rfl⟩ : ∃ e, d = e + 1 := ⟨d - 1, by omega⟩
  refine td_X9_sends ?_
  intro S hS
  iterate 3 refine hS _ _ _ _ ?_
  refine sp_isOne (by omega) hL ?_
  refine hS _ _ _ _ ?_
  refine And.intro (fun h5 => ?_) (fun h5 => ?_)
  · replace h5 := bI_f h5
    iterate 2 refine hS _ _ _ _ ?_
    rw [sendsP, itP_f (fun z => h5 z.1)] at hV
    subst hV
    exact hQ _ Fn.rf hL
  · replace h5 := bI_t h5
    iterate 2 refine hS _ _ _ _ ?_
    refine And.intro (fun h9 => ?_) (fun h9 => ?_)
    · iterate 2 refine hS _ _ _ _ ?_
      rw [sendsP, itP_f (fun z => isBd_lo h9 (by omega) z.2.1)] at hV
      subst hV
      exact hQ _ Fn.rf hL
    · iterate 3 refine hS _ _ _ _ ?_
      refine And.intro (fun h14 => ?_) (fun h14 => ?_)
      · iterate 2 refine hS _ _ _ _ ?_
        rw [sendsP, itP_f (fun z => ((in_bd1 (n := 3) (by omega)).mpr z.2.1).2 h14)] at hV
        subst hV
        exact hQ _ Fn.rf hL
      · iterate 2 refine hS _ _ _ _ ?_
        refine And.intro (fun h18 => ?_) (fun h18 => ?_)
        · iterate 2 refine hS _ _ _ _ ?_
          rw [sendsP, itP_f (fun z => z.2.2.1 h18)] at hV
          subst hV
          exact hQ _ Fn.rf hL
        · iterate 3 refine hS _ _ _ _ ?_
          refine sp_mostOfOne (by omega) ?_
          refine hS _ _ _ _ ?_
          refine And.intro (fun h26 => ?_) (fun h26 => ?_)
          · have hw := (in_bd1 (n := 3) (by omega)).mp ⟨h9, h14⟩
            rw [sendsP, itP_t ⟨h5, hw, h18, Int32.not_lt.mpr h26⟩] at hV
            obtain ⟨j, hj, rfl⟩ := h5
            obtain ⟨c, hc, ec⟩ := hw
            rw [nI_clamp (by omega)] at hV
            iterate 5 refine hS _ _ _ _ ?_
            refine ⟨(by first | assumption | exact vp_in_nI (by simp only [alen]; omega) (by decide)), ?_⟩
            try rw [nI_clamp (by omega)]
            iterate 3 refine hS _ _ _ _ ?_
            refine And.intro (fun h44 => ?_) (fun h44 => ?_)
            · iterate 3 refine hS _ _ _ _ ?_
              refine And.intro (fun h65 => ?_) (fun h65 => ?_)
              · iterate 3 refine hS _ _ _ _ ?_
                refine And.intro (fun h86 => ?_) (fun h86 => ?_)
                · have h3 : w = 3 := by
                    have c0 : c ≠ 0 := fun z => h44 (by rw [ec, z]; rfl)
                    have c1 : c ≠ 1 := fun z => h65 (by rw [ec, z]; rfl)
                    have c2 : c ≠ 2 := fun z => h86 (by rw [ec, z]; rfl)
                    rw [ec, show c = 3 by omega]; rfl
                  subst h3
                  rw [show 50 + 4 * j + Int32.toNatClampNeg 3 = 53 + 4 * j by rw [show Int32.toNatClampNeg 3 = 3 from rfl]; omega] at hV
                  subst hV
                  iterate 8 refine hS _ _ _ _ ?_
                  exact qv (hQ _ (Fn.mu1 (by omega)) (hL.p3 hj)) (hL.gone hj).symm
                · subst h86
                  rw [show 50 + 4 * j + Int32.toNatClampNeg 2 = 52 + 4 * j by rw [show Int32.toNatClampNeg 2 = 2 from rfl]; omega] at hV
                  subst hV
                  iterate 9 refine hS _ _ _ _ ?_
                  exact qv (hQ _ (Fn.mu1 (by omega)) (hL.p2 hj)) (hL.tired hj).symm
              · subst h65
                rw [show 50 + 4 * j + Int32.toNatClampNeg 1 = 51 + 4 * j by rw [show Int32.toNatClampNeg 1 = 1 from rfl]; omega] at hV
                subst hV
                iterate 9 refine hS _ _ _ _ ?_
                exact qv (hQ _ (Fn.mu1 (by omega)) (hL.p1 hj)) (hL.home hj).symm
            · subst h44
              rw [show 50 + 4 * j + Int32.toNatClampNeg 0 = 50 + 4 * j from rfl] at hV
              subst hV
              iterate 9 refine hS _ _ _ _ ?_
              exact qv (hQ _ (Fn.mu1 (by omega)) (hL.p0 hj)) (hL.town hj).symm
          · iterate 2 refine hS _ _ _ _ ?_
            rw [sendsP, itP_f (fun z => z.2.2.2 (nle_lt h26))] at hV
            subst hV
            exact hQ _ Fn.rf hL
theorem m_sends {M : Mem} {Q : PQ} {d : Nat} {p w v : Int32} (hd : 500 ≤ d) (hW : WF 10000 (M 31 0 0)) (hQ : ∀ M2, Fm M M2 → M2 31 0 0 = (sendsP (M 31 0 0) p w v).2 → Q (some (.inl (sendsP (M 31 0 0) p w v).1)) M2) : Td PR d 150 [.inr (30, 0, 0), .inl p, .inl w, .inl v] M Q := by
  have hC := hW.1.1
  have hb10 := hC.2.1
  have hp9 := hC.2.2.2.1
  have ht14 := hC.2.2.2.2.2
  generalize hV : sendsP (M 31 0 0) p w v = W at hQ
  obtain ⟨e, rfl⟩ : ∃ e, d = e + 1 := ⟨d - 1, by omega⟩
  refine td_X10_sends ?_
  intro S hS
  iterate 3 refine hS _ _ _ _ ?_
  refine sm_isOne (by omega) hC ?_
  refine hS _ _ _ _ ?_
  refine And.intro (fun h5 => ?_) (fun h5 => ?_)
  · replace h5 := bI_f h5
    iterate 2 refine hS _ _ _ _ ?_
    rw [sendsP, itP_f (fun z => h5 z.1)] at hV
    subst hV
    exact hQ _ Fm.rf rfl
  · replace h5 := bI_t h5
    iterate 4 refine hS _ _ _ _ ?_
    refine sm_in (by omega) ?_
    refine hS _ _ _ _ ?_
    refine And.intro (fun h14 => ?_) (fun h14 => ?_)
    · replace h14 := bI_f h14
      iterate 2 refine hS _ _ _ _ ?_
      rw [sendsP, itP_f (fun z => h14 ((in_bd1 (n := 3) (by omega)).mpr z.2.1))] at hV
      subst hV
      exact hQ _ Fm.rf rfl
    · replace h14 := bI_t h14
      have hw := (in_bd1 (n := 3) (by omega)).mp h14
      iterate 5 refine hS _ _ _ _ ?_
      refine And.intro (fun h21 => ?_) (fun h21 => ?_)
      · have h21' := Int32.not_lt.mpr h21
        iterate 3 refine hS _ _ _ _ ?_
        refine And.intro (fun h31 => ?_) (fun h31 => ?_)
        · have em : mostI w = 1 := by unfold mostI; rw [if_neg h21', if_neg h31]
          iterate 2 refine hS _ _ _ _ ?_
          refine sm_in (by omega) ?_
          refine hS _ _ _ _ ?_
          refine And.intro (fun h43 => ?_) (fun h43 => ?_)
          · replace h43 := bI_t h43
            rw [sendsP, itP_t ⟨h5, hw, by rw [em]; exact h43⟩] at hV
            obtain ⟨j, hj, rfl⟩ := h5
            obtain ⟨c, hc, ec⟩ := hw
            subst ec
            rw [nI_clamp (by omega), nI_clamp (by omega)] at hV
            have ix : (50 : Int32) + 4 * nI j + nI c = nI (50 + 4 * j + c) := by
              show nI 50 + nI 4 * nI j + nI c = _
              rw [nI_mul, nI_add, nI_add]
            subst hV
            iterate 10 refine hS _ _ _ _ ?_
            rw [ix]
            refine sm_swaps (by omega) (by omega) ?_
            refine hS _ _ _ _ ?_
            exact hQ _ Fm.mu upd_mu
          · replace h43 := bI_f h43
            iterate 2 refine hS _ _ _ _ ?_
            rw [sendsP, itP_f (fun z => h43 (by rw [← em]; exact z.2.2))] at hV
            subst hV
            exact hQ _ Fm.rf rfl
        · have em : mostI w = 9 := by unfold mostI; rw [if_neg h21', if_pos h31]
          iterate 3 refine hS _ _ _ _ ?_
          refine sm_in (by omega) ?_
          refine hS _ _ _ _ ?_
          refine And.intro (fun h43 => ?_) (fun h43 => ?_)
          · replace h43 := bI_t h43
            rw [sendsP, itP_t ⟨h5, hw, by rw [em]; exact h43⟩] at hV
            obtain ⟨j, hj, rfl⟩ := h5
            obtain ⟨c, hc, ec⟩ := hw
            subst ec
            rw [nI_clamp (by omega), nI_clamp (by omega)] at hV
            have ix : (50 : Int32) + 4 * nI j + nI c = nI (50 + 4 * j + c) := by
              show nI 50 + nI 4 * nI j + nI c = _
              rw [nI_mul, nI_add, nI_add]
            subst hV
            iterate 10 refine hS _ _ _ _ ?_
            rw [ix]
            refine sm_swaps (by omega) (by omega) ?_
            refine hS _ _ _ _ ?_
            exact hQ _ Fm.mu upd_mu
          · replace h43 := bI_f h43
            iterate 2 refine hS _ _ _ _ ?_
            rw [sendsP, itP_f (fun z => h43 (by rw [← em]; exact z.2.2))] at hV
            subst hV
            exact hQ _ Fm.rf rfl
      · have em : mostI w = 7 := by unfold mostI; rw [if_pos (nle_lt h21)]
        iterate 3 refine hS _ _ _ _ ?_
        refine sm_in (by omega) ?_
        refine hS _ _ _ _ ?_
        refine And.intro (fun h43 => ?_) (fun h43 => ?_)
        · replace h43 := bI_t h43
          rw [sendsP, itP_t ⟨h5, hw, by rw [em]; exact h43⟩] at hV
          obtain ⟨j, hj, rfl⟩ := h5
          obtain ⟨c, hc, ec⟩ := hw
          subst ec
          rw [nI_clamp (by omega), nI_clamp (by omega)] at hV
          have ix : (50 : Int32) + 4 * nI j + nI c = nI (50 + 4 * j + c) := by
            show nI 50 + nI 4 * nI j + nI c = _
            rw [nI_mul, nI_add, nI_add]
          subst hV
          iterate 10 refine hS _ _ _ _ ?_
          rw [ix]
          refine sm_swaps (by omega) (by omega) ?_
          refine hS _ _ _ _ ?_
          exact hQ _ Fm.mu upd_mu
        · replace h43 := bI_f h43
          iterate 2 refine hS _ _ _ _ ?_
          rw [sendsP, itP_f (fun z => h43 (by rw [← em]; exact z.2.2))] at hV
          subst hV
          exact hQ _ Fm.rf rfl
theorem op_sends {p w v : Int32} : OpOK 76 150 [.inl p, .inl w, .inl v] := op_n (fun M => (sendsP (M 31 0 0) p w v).1) (fun M => (sendsP (M 31 0 0) p w v).2) (fun M Q d hd hI hQ => c_sends hd hI hQ) (fun M M1 Q d hd hI f1 hQ => by
    have e : M1 31 0 0 = M 31 0 0 := by rw [f1.kd (by decide) (by decide) (by decide) (by decide)]
    rw [← e] at hQ
    exact m_sends hd (by rw [e]; exact hI.wf) hQ) (fun M hI => sendsP_wf hI.wf)
