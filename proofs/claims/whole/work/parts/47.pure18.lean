-- 47.pure18: what holds between the calls; the shapes of the calls
def INow (M : Mem) : Prop := LL M 0 (M 31 0 0) ∧ TX M (M 31 0 0) ∧ WF 10000 (M 31 0 0)
def IImg (M : Mem) : Prop := M 0 0 0 5 = M 30 0 0 3 ∧ (M 0 0 0 5 = 0 ∨ (M 0 0 0 5 = 1 ∧ LL M 2 (M 32 0 0) ∧ TX M (M 32 0 0) ∧ WF 10000 (M 32 0 0) ∧ cT (M 32 0 0) ≤ cT (M 31 0 0)))
def IRow (M : Mem) : Prop := ∀ s, s < 4 → M 58 0 0 s = M 16 s 0 0 ∧ M 59 0 0 s = M 16 s 0 1 ∧ (M 16 s 0 0 = -1 ∨ M 16 s 0 0 = 0 ∨ M 16 s 0 0 = 1) ∧ isBd 25 (M 16 s 0 1) ∧ ∀ k, k < 24 → M 60 0 0 (24 * s + k) = M 17 s 0 k
def ISlot (M : Mem) : Prop := ∀ s, s < 5 → M 61 0 0 s = M 19 s 0 0 ∧ isBd 4 (M 19 s 0 0) ∧ (M 19 s 0 0 = 1 → M 62 0 0 s = M 3 3 s 0 ∧ M 63 0 0 s = worthI (M 3 3 s 0) (M 3 3 s 1) (M 3 3 s 2) (M 3 3 s 3)) ∧ (M 19 s 0 0 = 2 → M 62 0 0 s = M 16 (s + 4) 0 1 ∧ isBd 25 (M 16 (s + 4) 0 1) ∧ ∀ k, k < 24 → M 64 0 0 (24 * s + k) = M 17 (s + 4) 0 k) ∧ (M 19 s 0 0 = 3 → M 62 0 0 s = M 19 s 0 3)
def IWait (M : Mem) : Prop := M 0 0 0 10 = M 30 0 0 36 ∧ ∃ n, n ≤ 60 ∧ M 30 0 0 36 = nI n ∧ ∀ i, i < n → M 20 0 0 i = M 66 0 0 i
def ITape (M : Mem) : Prop := M 11 0 0 1 = M 30 0 0 10 ∧ ∃ n, n ≤ 96 ∧ M 30 0 0 10 = nI n ∧ ∀ i, i < n → M 12 0 0 i = M 40 0 0 i ∧ isBd 256 (M 12 0 0 i)
def keyL : List Int32 := [104, 111, 117, 114, 115, 102, 101, 101, 102, 105, 110, 101]
def keyA : List Int32 := [0, 5, 8, 12]
def IKey (M : Mem) : Prop := (∀ i, i < 12 → M 48 0 0 i = keyL.getD i 0) ∧ (∀ i, i < 4 → M 49 0 0 i = keyA.getD i 0)
def INV (M : Mem) : Prop := INow M ∧ IImg M ∧ IRow M ∧ ISlot M ∧ IWait M ∧ ITape M ∧ IKey M
theorem INow.cg {M M' : Mem} (h : INow M) (h1 : M' 1 0 = M 1 0) (h3 : M' 3 0 = M 3 0) (h5 : M' 5 0 = M 5 0) (h9 : M' 9 = M 9) (h10 : M' 10 = M 10) (h31 : M' 31 0 0 = M 31 0 0) : INow M' := by
  unfold INow
  rw [h31]
  exact ⟨h.1.fr h1 h3 h5, h.2.1.cg TXE.rf h9 h10, h.2.2⟩
theorem IImg.cg {M M' : Mem} (h : IImg M) (h0 : M' 0 0 0 5 = M 0 0 0 5) (h30 : M' 30 0 0 3 = M 30 0 0 3) (h1 : M' 1 2 = M 1 2) (h3 : M' 3 2 = M 3 2) (h5 : M' 5 2 = M 5 2) (h9 : M' 9 = M 9) (h10 : M' 10 = M 10) (h32 : M' 32 0 0 = M 32 0 0) (ht : cT (M' 31 0 0) = cT (M 31 0 0)) : IImg M' := by
  unfold IImg
  rw [h0, h30, h32, ht]
  refine ⟨h.1, h.2.imp id fun z => ⟨z.1, z.2.1.fr h1 h3 h5, z.2.2.1.cg TXE.rf h9 h10, z.2.2.2⟩⟩
theorem IRow.cg {M M' : Mem} (h : IRow M) (h16 : ∀ s, s < 4 → M' 16 s = M 16 s) (h17 : ∀ s, s < 4 → M' 17 s = M 17 s) (h58 : M' 58 = M 58) (h59 : M' 59 = M 59) (h60 : M' 60 = M 60) : IRow M' := by
  intro s hs
  rw [h16 s hs, h17 s hs, h58, h59, h60]
  exact h s hs
theorem ISlot.cg {M M' : Mem} (h : ISlot M) (h19 : M' 19 = M 19) (h3 : M' 3 3 = M 3 3) (h16 : ∀ s, 4 ≤ s → M' 16 s = M 16 s) (h17 : ∀ s, 4 ≤ s → M' 17 s = M 17 s) (h61 : M' 61 = M 61) (h62 : M' 62 = M 62) (h63 : M' 63 = M 63) (h64 : M' 64 = M 64) : ISlot M' := by
  intro s hs
  rw [h19, h3, h16 (s + 4) (by omega), h17 (s + 4) (by omega), h61, h62, h63, h64]
  exact h s hs
theorem IWait.cg {M M' : Mem} (h : IWait M) (h0 : M' 0 0 0 10 = M 0 0 0 10) (h30 : M' 30 0 0 36 = M 30 0 0 36) (h20 : M' 20 = M 20) (h66 : M' 66 = M 66) : IWait M' := by
  unfold IWait
  rw [h0, h30, h20, h66]
  exact h
theorem ITape.cg {M M' : Mem} (h : ITape M) (h11 : M' 11 0 0 1 = M 11 0 0 1) (h30 : M' 30 0 0 10 = M 30 0 0 10) (h12 : M' 12 = M 12) (h40 : M' 40 = M 40) : ITape M' := by
  unfold ITape
  rw [h11, h30, h12, h40]
  exact h
theorem IKey.cg {M M' : Mem} (h : IKey M) (h48 : M' 48 = M 48) (h49 : M' 49 = M 49) : IKey M' := by
  unfold IKey
  rw [h48, h49]
  exact h
def Kp (M M' : Mem) : Prop := M' 90 = M 90 ∧ M' 91 = M 91
theorem Kp.tr {M M' M'' : Mem} (h : Kp M M') (h' : Kp M' M'') : Kp M M'' := ⟨h'.1.trans h.1, h'.2.trans h.2⟩
/-- cells whose content nobody relies on between calls -/
def Sc (k i : Nat) : Prop := k = 8 ∨ k = 14 ∨ ((k = 1 ∨ k = 3 ∨ k = 5) ∧ i = 1) ∨ k = 31 ∨ k = 33 ∨ k = 35 ∨ k = 36 ∨ k = 37 ∨ k = 38 ∨ k = 39 ∨ k = 50 ∨ k = 53 ∨ k = 55 ∨ k = 56 ∨ k = 57 ∨ k = 65
def FrS (M M' : Mem) : Prop := M' 31 0 0 = M 31 0 0 ∧ ∀ k i, ¬ Sc k i → M' k i = M k i
theorem FrS.rf {M : Mem} : FrS M M := ⟨rfl, fun _ _ _ => rfl⟩
theorem FrS.tr {M M' M'' : Mem} (h : FrS M M') (h' : FrS M' M'') : FrS M M'' := ⟨h'.1.trans h.1, fun k i b => (h'.2 k i b).trans (h.2 k i b)⟩
theorem FrS.kd {M M' : Mem} (h : FrS M M') {k : Nat} (hk : ∀ i, ¬ Sc k i) : M' k = M k := funext fun i => h.2 k i (hk i)
theorem Fn.sc {M M' : Mem} (h : Fn 1 M M') : FrS M M' := ⟨by rw [h.kd (by decide) (by decide) (by decide) (by decide)], fun k i z => h k i (fun e => z (Or.inl e)) (fun e => z (Or.inr (Or.inr (Or.inl e))))⟩
theorem Fl.sc {M M' : Mem} (h : Fl 1 M M') : FrS M M' := h.fn.sc
theorem FrS.kp {M M' : Mem} (h : FrS M M') : Kp M M' := ⟨h.kd (fun i => by unfold Sc; omega), h.kd (fun i => by unfold Sc; omega)⟩
theorem INV.sc {M M' : Mem} (h : INV M) (f : FrS M M') : INV M' := by
  obtain ⟨a, b, c, d, e, g, k⟩ := h
  have q : ∀ k, k < 8 ∨ (8 < k ∧ k < 14) ∨ (14 < k ∧ k < 31) ∨ k = 32 ∨ k = 40 ∨ k = 48 ∨ k = 49 ∨ (57 < k ∧ k < 65) ∨ 65 < k → ¬ (k = 1 ∨ k = 3 ∨ k = 5) → M' k = M k := fun k h1 h2 => f.kd (fun i => by unfold Sc; omega)
  have r : ∀ k i, (k = 1 ∨ k = 3 ∨ k = 5) → i ≠ 1 → M' k i = M k i := fun k i h1 h2 => f.2 k i (by unfold Sc; omega)
  have e31 : M' 31 0 0 = M 31 0 0 := f.1
  have e30 : M' 30 = M 30 := q 30 (by omega) (by omega)
  have e0 : M' 0 = M 0 := q 0 (by omega) (by omega)
  have e11 : M' 11 = M 11 := q 11 (by omega) (by omega)
  refine ⟨a.cg (r 1 0 (by omega) (by omega)) (r 3 0 (by omega) (by omega)) (r 5 0 (by omega) (by omega)) (q 9 (by omega) (by omega)) (q 10 (by omega) (by omega)) e31,
    b.cg (by rw [e0]) (by rw [e30]) (r 1 2 (by omega) (by omega)) (r 3 2 (by omega) (by omega)) (r 5 2 (by omega) (by omega)) (q 9 (by omega) (by omega)) (q 10 (by omega) (by omega)) (by rw [q 32 (by omega) (by omega)]) (by rw [e31]),
    c.cg (fun s _ => by rw [q 16 (by omega) (by omega)]) (fun s _ => by rw [q 17 (by omega) (by omega)]) (q 58 (by omega) (by omega)) (q 59 (by omega) (by omega)) (q 60 (by omega) (by omega)),
    d.cg (q 19 (by omega) (by omega)) (r 3 3 (by omega) (by omega)) (fun s _ => by rw [q 16 (by omega) (by omega)]) (fun s _ => by rw [q 17 (by omega) (by omega)]) (q 61 (by omega) (by omega)) (q 62 (by omega) (by omega)) (q 63 (by omega) (by omega)) (q 64 (by omega) (by omega)),
    e.cg (by rw [e0]) (by rw [e30]) (q 20 (by omega) (by omega)) (q 66 (by omega) (by omega)),
    g.cg (by rw [e11]) (by rw [e30]) (q 12 (by omega) (by omega)) (q 40 (by omega) (by omega)),
    k.cg (q 48 (by omega) (by omega)) (q 49 (by omega) (by omega))⟩
/-- a call of the class, then the same of the reference: one answer, and all holds again -/
def OpOK (cm mm : Nat) (av : List AV) : Prop := ∀ M, INV M → ∀ d, 500 ≤ d → Td PR d cm (.inr (0, 0, 0) :: av) M (fun r M1 => ∃ v, r = some (.inl v) ∧ Kp M M1 ∧ Td PR d mm (.inr (30, 0, 0) :: av) M1 (fun r2 M2 => r2 = some (.inl v) ∧ INV M2 ∧ Kp M1 M2))
/-- a question: nothing changes that anybody relies on -/
theorem op_q {cm mm : Nat} {av : List AV} (V : Mem → Int32)
    (hc : ∀ M Q d, 500 ≤ d → INV M → (∀ M', FrS M M' → Q (some (.inl (V M))) M') → Td PR d cm (.inr (0, 0, 0) :: av) M Q)
    (hm : ∀ M Q d, 500 ≤ d → INV M → (∀ M', FrS M M' → Q (some (.inl (V M))) M') → Td PR d mm (.inr (30, 0, 0) :: av) M Q)
    (hV : ∀ M M', FrS M M' → V M' = V M) : OpOK cm mm av := by
  intro M hI d hd
  refine hc M _ d hd hI (fun M1 f1 => ⟨V M, rfl, f1.kp, ?_⟩)
  refine hm M1 _ d hd (hI.sc f1) (fun M2 f2 => ⟨by rw [hV M M1 f1], (hI.sc f1).sc f2, f2.kp⟩)
/-- what the reference's nights touch -/
def Fm (M M' : Mem) : Prop := ∀ k, k ≠ 31 → k ≠ 35 → k ≠ 56 → k ≠ 57 → M' k = M k
/-- a call that changes how all stands -/
theorem op_n {cm mm : Nat} {av : List AV} (V : Mem → Int32) (F : Mem → FA)
    (hc : ∀ M Q d, 500 ≤ d → INV M → (∀ M1, Fn 0 M M1 → LL M1 0 (F M) → Q (some (.inl (V M))) M1) → Td PR d cm (.inr (0, 0, 0) :: av) M Q)
    (hm : ∀ M M1 Q d, 500 ≤ d → INV M → Fn 0 M M1 → (∀ M2, Fm M1 M2 → M2 31 0 0 = F M → Q (some (.inl (V M))) M2) → Td PR d mm (.inr (30, 0, 0) :: av) M1 Q)
    (hF : ∀ M, INV M → WF 10000 (F M) ∧ TXE (M 31 0 0) (F M)) : OpOK cm mm av := by
  intro M hI d hd
  obtain ⟨wf, tx⟩ := hF M hI
  have q1 : ∀ M1, Fn 0 M M1 → ∀ k, k ≠ 1 → k ≠ 3 → k ≠ 5 → k ≠ 8 → M1 k = M k := fun M1 f1 k a1 a3 a5 a8 => f1.kd a8 a1 a3 a5
  refine hc M _ d hd hI (fun M1 f1 l1 => ⟨V M, rfl, ⟨q1 M1 f1 90 (by decide) (by decide) (by decide) (by decide), q1 M1 f1 91 (by decide) (by decide) (by decide) (by decide)⟩, ?_⟩)
  refine hm M M1 _ d hd hI f1 (fun M2 f2 e2 => ⟨rfl, ?_, ⟨f2 90 (by decide) (by decide) (by decide) (by decide), f2 91 (by decide) (by decide) (by decide) (by decide)⟩⟩)
  obtain ⟨a, b, c, d, e, g, k⟩ := hI
  have q : ∀ k, k ≠ 1 → k ≠ 3 → k ≠ 5 → k ≠ 8 → k ≠ 31 → k ≠ 35 → k ≠ 56 → k ≠ 57 → M2 k = M k := fun k a1 a3 a5 a8 b1 b2 b3 b4 => (f2 k b1 b2 b3 b4).trans (q1 M1 f1 k a1 a3 a5 a8)
  have r : ∀ k i, (k = 1 ∨ k = 3 ∨ k = 5) → i ≠ 0 → M2 k i = M k i := fun k i h1 h2 => by
    rw [f2 k (by omega) (by omega) (by omega) (by omega)]
    exact f1 k i (by omega) (by omega)
  have q9 : M2 9 = M 9 := q 9 (by omega) (by omega) (by omega) (by omega) (by omega) (by omega) (by omega) (by omega)
  have q10 : M2 10 = M 10 := q 10 (by omega) (by omega) (by omega) (by omega) (by omega) (by omega) (by omega) (by omega)
  have q16 : M2 16 = M 16 := q 16 (by omega) (by omega) (by omega) (by omega) (by omega) (by omega) (by omega) (by omega)
  have q17 : M2 17 = M 17 := q 17 (by omega) (by omega) (by omega) (by omega) (by omega) (by omega) (by omega) (by omega)
  have q0 : M2 0 = M 0 := q 0 (by omega) (by omega) (by omega) (by omega) (by omega) (by omega) (by omega) (by omega)
  have q30 : M2 30 = M 30 := q 30 (by omega) (by omega) (by omega) (by omega) (by omega) (by omega) (by omega) (by omega)
  refine ⟨?_, b.cg (by rw [q0]) (by rw [q30]) (r 1 2 (by omega) (by omega)) (r 3 2 (by omega) (by omega)) (r 5 2 (by omega) (by omega)) q9 q10 (by rw [q 32 (by omega) (by omega) (by omega) (by omega) (by omega) (by omega) (by omega) (by omega)]) (by rw [e2]; exact tx.ct0),
    c.cg (fun s _ => by rw [q16]) (fun s _ => by rw [q17]) (q 58 (by omega) (by omega) (by omega) (by omega) (by omega) (by omega) (by omega) (by omega)) (q 59 (by omega) (by omega) (by omega) (by omega) (by omega) (by omega) (by omega) (by omega)) (q 60 (by omega) (by omega) (by omega) (by omega) (by omega) (by omega) (by omega) (by omega)),
    d.cg (q 19 (by omega) (by omega) (by omega) (by omega) (by omega) (by omega) (by omega) (by omega)) (r 3 3 (by omega) (by omega)) (fun s _ => by rw [q16]) (fun s _ => by rw [q17]) (q 61 (by omega) (by omega) (by omega) (by omega) (by omega) (by omega) (by omega) (by omega)) (q 62 (by omega) (by omega) (by omega) (by omega) (by omega) (by omega) (by omega) (by omega)) (q 63 (by omega) (by omega) (by omega) (by omega) (by omega) (by omega) (by omega) (by omega)) (q 64 (by omega) (by omega) (by omega) (by omega) (by omega) (by omega) (by omega) (by omega)),
    e.cg (by rw [q0]) (by rw [q30]) (q 20 (by omega) (by omega) (by omega) (by omega) (by omega) (by omega) (by omega) (by omega)) (q 66 (by omega) (by omega) (by omega) (by omega) (by omega) (by omega) (by omega) (by omega)),
    g.cg (by rw [q 11 (by omega) (by omega) (by omega) (by omega) (by omega) (by omega) (by omega) (by omega)]) (by rw [q30]) (q 12 (by omega) (by omega) (by omega) (by omega) (by omega) (by omega) (by omega) (by omega)) (q 40 (by omega) (by omega) (by omega) (by omega) (by omega) (by omega) (by omega) (by omega)),
    k.cg (q 48 (by omega) (by omega) (by omega) (by omega) (by omega) (by omega) (by omega) (by omega)) (q 49 (by omega) (by omega) (by omega) (by omega) (by omega) (by omega) (by omega) (by omega))⟩
  refine ⟨?_, ?_, by rw [e2]; exact wf⟩
  · rw [e2]
    exact l1.fr (by rw [f2 1 (by omega) (by omega) (by omega) (by omega)]) (by rw [f2 3 (by omega) (by omega) (by omega) (by omega)]) (by rw [f2 5 (by omega) (by omega) (by omega) (by omega)])
  · rw [e2]
    exact a.2.1.cg tx q9 q10
section I18
variable {M : Mem}
theorem INV.ll (h : INV M) : LL M 0 (M 31 0 0) := h.1.1
theorem INV.tx (h : INV M) : TX M (M 31 0 0) := h.1.2.1
theorem INV.wf (h : INV M) : WF 10000 (M 31 0 0) := h.1.2.2
theorem INV.nm (h : INV M) : NM 10000 (M 31 0 0) := h.1.2.2.1
theorem INV.cn (h : INV M) : CN (M 31 0 0) := h.1.2.2.1.1
end I18
