-- 78.pure49: the reference at a word of a text
def FY (M0 M : Mem) : Prop := (∀ k, k ≠ 30 → k ≠ 50 → k ≠ 53 → k ≠ 55 → M k = M0 k) ∧ ∀ j, (j < 11 ∨ 23 < j ∨ (15 < j ∧ j < 20) ∨ j = 22) → M 30 0 0 j = M0 30 0 0 j
def tsB (b : Bool) : Int32 := if b = true then 1 else 0
/-- the reference between two words: its signs W, its codes C, tests seen in te -/
def RSt (M0 : Mem) (n : Nat) (f : FA) (M : Mem) (T : TK) (W : List Nat) (C : List Int32) (par : Nat) (te : Nat → Bool) : Prop := RT M n f T ∧ (T.2.2.1 ≠ 0 → T.2.2.1 ≠ 4 → RGo M T) ∧ RS M W C ∧ M 30 0 0 21 = nI (lvN C) ∧ (∀ i, i ≤ par → M 55 0 0 i = tsB (te i)) ∧ W.length + C.length ≤ T.1 ∧ FY M0 M
/-- just before it goes on -/
def RPre (M0 : Mem) (n : Nat) (f : FA) (M : Mem) (T : TK) (W : List Nat) (C : List Int32) (par : Nat) (te : Nat → Bool) : Prop := RT M n f T ∧ RGo M T ∧ RS M W C ∧ M 30 0 0 21 = nI (lvN C) ∧ (∀ i, i ≤ par → M 55 0 0 i = tsB (te i)) ∧ W.length + C.length ≤ T.1 + 1 ∧ FY M0 M
def GT (M M1 : Mem) : Prop := (∀ k, k ≠ 30 → k ≠ 50 → k ≠ 53 → k ≠ 55 → M1 k = M k) ∧ (∀ j, j ≠ 20 → j ≠ 21 → j ≠ 23 → M1 30 0 0 j = M 30 0 0 j)
theorem GT.rf {M : Mem} : GT M M := ⟨fun _ _ _ _ _ => rfl, fun _ _ _ _ => rfl⟩
theorem GT.a {M M1 : Mem} (h : GT M M1) {k i j s : Nat} {v : Int32} (hk : k = 50 ∨ k = 53 ∨ k = 55) : GT M (mu M1 k i j s v) := ⟨fun q a b c d => by rw [mz_k (by omega)]; exact h.1 q a b c d, fun q a b c => by rw [mz_k (by omega)]; exact h.2 q a b c⟩
theorem GT.b {M M1 : Mem} (h : GT M M1) {s : Nat} {v : Int32} (hs : s = 20 ∨ s = 21 ∨ s = 23) : GT M (mu M1 30 0 0 s v) := ⟨fun q a b c d => by rw [mz_k a]; exact h.1 q a b c d, fun q a b c => by rw [mz_sl (by omega)]; exact h.2 q a b c⟩
theorem GT.s {M M1 M2 : Mem} (h : GT M M1) (g : FS M1 M2) : GT M M2 := ⟨fun q a b c d => (g.1 q a b).trans (h.1 q a b c d), fun q a b c => (g.2 q a c).trans (h.2 q a b c)⟩
theorem GT.rt {M M1 : Mem} {n : Nat} {f : FA} {T : TK} (g : GT M M1) (h : RT M n f T) : RT M1 n f T := by
  unfold RT
  rw [g.2 10 (by decide) (by decide) (by decide), g.1 40 (by decide) (by decide) (by decide) (by decide), g.2 12 (by decide) (by decide) (by decide), g.2 11 (by decide) (by decide) (by decide), g.2 13 (by decide) (by decide) (by decide), g.2 14 (by decide) (by decide) (by decide)]
  exact h
theorem GT.go {M M1 : Mem} {T : TK} (g : GT M M1) (h : RGo M T) : RGo M1 T := by
  unfold RGo
  rw [g.2 15 (by decide) (by decide) (by decide)]
  exact h
theorem GT.fy {M0 M M1 : Mem} (g : GT M M1) (h : FY M0 M) : FY M0 M1 := ⟨fun k a b c d => (g.1 k a b c d).trans (h.1 k a b c d), fun j a => (g.2 j (by omega) (by omega) (by omega)).trans (h.2 j a)⟩
theorem RS.cg {M M1 : Mem} {W : List Nat} {C : List Int32} (h : RS M W C) (h20 : M1 30 0 0 20 = M 30 0 0 20) (h23 : M1 30 0 0 23 = M 30 0 0 23) (h50 : M1 50 = M 50) (h53 : M1 53 = M 53) : RS M1 W C := by
  unfold RS
  rw [h20, h23, h50, h53]
  exact h
theorem RS.code {M : Mem} {W : List Nat} {C : List Int32} {u v : Int32} (h : RS M W C) (hu : u = nI (C.length + 1)) : RS (mu (mu M 50 0 0 C.length v) 30 0 0 20 u) W (C ++ [v]) := by
  obtain ⟨a, b, c, d, e⟩ := h
  refine ⟨by rw [mz_sl (by decide), mz_k (by decide)]; exact a, fun i hi => by rw [mz_k (by decide), mz_k (by decide)]; exact b i hi, c, by rw [mz_at, hu, List.length_append, List.length_singleton], fun k hk => ?_⟩
  rw [mz_k (by decide)]
  rw [List.length_append, List.length_singleton] at hk
  by_cases z : k = C.length
  · subst z; rw [mz_at, getD_l]
  · rw [mz_sl z, getD_a (by omega)]; exact e k (by omega)
theorem RS.push {M : Mem} {W : List Nat} {C : List Int32} {u v : Int32} {w : Nat} (h : RS M W C) (h1 : 1 ≤ w) (h2 : w ≤ 11) (hv : v = - nI w) (hu : u = nI (W.length + 1)) : RS (mu (mu M 53 0 0 W.length v) 30 0 0 23 u) (w :: W) C := by
  obtain ⟨a, b, c, d, e⟩ := h
  refine ⟨by rw [mz_at, hu, List.length_cons], fun i hi => ?_, fun q hq => ?_, by rw [mz_sl (by decide), mz_k (by decide)]; exact d, fun k hk => by rw [mz_k (by decide), mz_k (by decide)]; exact e k hk⟩
  · rw [mz_k (by decide)]
    rw [List.length_cons] at hi ⊢
    by_cases z : i = W.length
    · subst z
      rw [mz_at, show W.length + 1 - 1 - W.length = 0 by omega, hv]
      rfl
    · rw [mz_sl z, b i (by omega), show W.length + 1 - 1 - i = (W.length - 1 - i) + 1 by omega]
      rfl
  · rcases List.mem_cons.mp hq with z | z
    · subst z; exact ⟨h1, h2⟩
    · exact c q z
theorem RS.drop {M : Mem} {W : List Nat} {C : List Int32} {u : Int32} {w : Nat} (h : RS M (w :: W) C) (hu : u = nI W.length) : RS (mu M 30 0 0 23 u) W C := by
  obtain ⟨a, b, c, d, e⟩ := h
  refine ⟨by rw [mz_at, hu], fun i hi => ?_, fun q hq => c q (List.mem_cons_of_mem _ hq), by rw [mz_sl (by decide)]; exact d, fun k hk => by rw [mz_k (by decide)]; exact e k hk⟩
  rw [mz_k (by decide), b i (by rw [List.length_cons]; omega), List.length_cons, show W.length + 1 - 1 - i = (W.length - 1 - i) + 1 by omega]
  rfl
theorem RSt.pre {M0 M M1 : Mem} {n par par' : Nat} {f : FA} {T : TK} {W W' : List Nat} {C C' : List Int32} {te te' : Nat → Bool} (h : RSt M0 n f M T W C par te) (h0 : T.2.2.1 ≠ 0) (h4 : T.2.2.1 ≠ 4) (g : GT M M1) (hr : RS M1 W' C') (ha : M1 30 0 0 21 = nI (lvN C')) (ht : ∀ i, i ≤ par' → M1 55 0 0 i = tsB (te' i)) (hl : W'.length + C'.length ≤ T.1 + 1) : RPre M0 n f M1 T W' C' par' te' :=
  ⟨g.rt h.1, g.go (h.2.1 h0 h4), hr, ha, ht, hl, g.fy h.2.2.2.2.2.2⟩
theorem rkT_n : ∀ k, k ≤ 4 → (rkT k = 0 ↔ k = 0) ∧ (rkT k = 1 ↔ k = 2) ∧ (rkT k = 2 ↔ k = 3) ∧ (rkT k = 3 ↔ k = 1) := by decide
section W49
variable {d n par : Nat} {M0 M : Mem} {Q : PQ} {f : FA} {T : TK} {W : List Nat} {C : List Int32} {te : Nat → Bool}
theorem sm_gox (hd : 4 ≤ d) (hn : n ≤ 96) (hT : TO n f T) (h0 : T.2.2.1 ≠ 0) (hp : RPre M0 n f M T W C par te) (hQ : ∀ M1, RSt M0 n f M1 (nt f n T) W C par te → Q none M1) : Td PR d 186 [.inr (30, 0, 0)] M Q := by
  obtain ⟨⟨e1, hf, e2, e3, e4, e5⟩, hg, hr, ha, ht, hl, hy⟩ := hp
  have hlt := hT.lt h0
  have hnt := hT.nt
  refine sm_go (n := n) (f := f) (p := T.2.1) (W := T.2.2.1 = 2 ∨ T.2.2.1 = 3) hd hn hT.1.2.1 e1 hf e3 hg (fun M1 g1 g2 g3 => hQ M1 ⟨g2, g3, ?_, ?_, ?_, ?_, ?_⟩)
  · exact hr.cg (g1.2 20 (by omega)) (g1.2 23 (by omega)) (g1.1 50 (by decide)) (g1.1 53 (by decide))
  · exact (g1.2 21 (by omega)).trans ha
  · intro i hi; rw [g1.1 55 (by decide)]; exact ht i hi
  · omega
  · exact ⟨fun k a b c d => (g1.1 k a).trans (hy.1 k a b c d), fun j a => (g1.2 j (by omega)).trans (hy.2 j a)⟩
theorem sm_nots (hd : 1 ≤ d) (hr : RS M W C) (h96 : W.length ≤ 96) (hQ : Q (some (.inl (nI (noF W)))) M) : Td PR d 194 [.inr (30, 0, 0)] M Q := by
  refine sm_notsOpen (n := W.length) hd h96 hr.1 ?_
  rw [noM_F W hr.2.2.1 hr.2.1]
  exact hQ
theorem sm_takesPart {ky : Nat} (hd : 6 ≤ d) (hn : n ≤ 96) (hk : ky < 3) (hT : TO n f T) (ek : M0 30 0 0 16 = nI ky) (hM : RSt M0 n f M T W C par te)
    (k1 : ∀ v, ((T.2.2.1 = 3 ∧ v = T.2.2.2) ∨ (T.2.2.1 = 2 ∧ ¬ nmF T ky < 0 ∧ v = 10000 + nmF T ky)) → ∀ M1, RSt M0 n f M1 (nt f n T) (seF 6 W (C ++ [v])).1 (seF 6 W (C ++ [v])).2 par te → Q (some (.inl 1)) M1)
    (k0 : ¬ T.2.2.1 = 3 → (T.2.2.1 = 2 → nmF T ky < 0) → Q (some (.inl 0)) M) : Td PR d 192 [.inr (30, 0, 0)] M Q := by
  have ek' : M 30 0 0 16 = nI ky := (hM.2.2.2.2.2.2.2 16 (by omega)).trans ek
  have h4 := hT.1.2.2.1
  obtain ⟨r0, r1, r2, r3⟩ := rkT_n _ h4
  have e11 : M 30 0 0 11 = nI T.2.1 := hM.1.2.2.2.1
  have e12 : M 30 0 0 12 = nI T.1 := hM.1.2.2.1
  have e13 : M 30 0 0 13 = rkT T.2.2.1 := hM.1.2.2.2.2.1
  have e14 := hM.1.2.2.2.2.2
  have hr := hM.2.2.1
  have hlen := hM.2.2.2.2.2.1
  have es : M 30 0 0 11 - M 30 0 0 12 = nI (T.2.1 - T.1) := by rw [e11, e12]; exact nI_sub hT.1.1
  have elen : T.2.1 - T.1 < 1000 := by have := hT.1.2.1; omega
  obtain ⟨e, rfl⟩ : ∃ e, d = e + 1 := ⟨d - 1, by omega⟩
  refine td_X10_takesPart ?_
  intro S hS
  have fin : ∀ v o, ((T.2.2.1 = 3 ∧ v = T.2.2.2) ∨ (T.2.2.1 = 2 ∧ ¬ nmF T ky < 0 ∧ v = 10000 + nmF T ky)) → S 87 [some (.inr (30, 0, 0)), o] [.inl v, .inl (nI C.length), .inr (50, 0, 0)] M := by
    intro v o hv
    have hbd : isBd 10003 v := by
      rcases hv with ⟨a, b⟩ | ⟨a, b, c⟩
      · obtain ⟨j, hj, ej⟩ := hT.2 a
        exact ⟨j, by omega, b.trans ej⟩
      · obtain ⟨q, hq, eq, -⟩ := nmF_mem hk b
        refine ⟨10000 + q, by revert hq; split <;> (intro hq; omega), ?_⟩
        rw [c, eq]
        exact nI_add 10000 q
    have h0 : T.2.2.1 ≠ 0 := by rcases hv with ⟨a, b⟩ | ⟨a, b, c⟩ <;> omega
    have h44 : T.2.2.1 ≠ 4 := by rcases hv with ⟨a, b⟩ | ⟨a, b, c⟩ <;> omega
    have hlt := hT.lt h0
    refine hS _ _ _ _ ?_
    refine ⟨(by first | assumption | exact vp_in_nI (by simp only [alen]; omega) (by decide)), ?_⟩
    try rw [nI_clamp (by omega)]
    iterate 15 refine hS _ _ _ _ ?_
    refine sm_settle (r := 6) (W := W) (C := C ++ [v]) (by omega) (by decide) (by rw [List.length_append, List.length_singleton]; omega) (RS.cg (RS.code hr (by rw [mz_k (by decide), hr.2.2.2.1]; exact (nI_succ _).symm)) (mz_sl (by decide)) (mz_sl (by decide)) (mz_k (by decide)) (mz_k (by decide))) (fun M1 g1 g2 => ?_)
    iterate 2 refine hS _ _ _ _ ?_
    refine sm_gox (par := par) (te := te) (by omega) hn hT h0 (hM.pre h0 h44 (GT.s (GT.b (GT.b (GT.a GT.rf (by omega)) (by omega)) (by omega)) g1) g2 ?_ ?_ ?_) (fun M2 h2 => ?_)
    · rw [g1.2 21 (by decide) (by decide), mz_at, mz_sl (by decide), mz_k (by decide), hM.2.2.2.1, seF_lv W _ hr.2.2.1, lvN_pos hbd (by decide), nI_succ]
    · intro i hi; rw [g1.1 55 (by decide) (by decide), mz_k (by decide), mz_k (by decide), mz_k (by decide)]; exact hM.2.2.2.2.1 i hi
    · rw [seF_len, List.length_append, List.length_singleton]; omega
    iterate 2 refine hS _ _ _ _ ?_
    refine ⟨rfl, ?_⟩
    exact k1 v hv M2 h2
  have rest : ∀ b, b = bI (T.2.2.1 = 2 ∧ ¬ nmF T ky < 0) → S 37 [some (.inr (30, 0, 0)), none] [.inl b] M := by
    intro b hb
    iterate 5 refine hS _ _ _ _ ?_
    refine And.intro (fun h43 => ?_) (fun h43 => ?_)
    · rw [e13, r2] at h43
      iterate 8 refine hS _ _ _ _ ?_
      refine And.intro (fun h65 => ?_) (fun h65 => ?_)
      · exact absurd (e13.trans (r2.mpr h43)) h65
      · iterate 3 refine hS _ _ _ _ ?_
        rw [show gfv M 30 0 0 14 = .inl T.2.2.2 from congrArg Sum.inl (e14 (Or.inr (Or.inr h43))), show gfv M 30 0 0 20 = .inl (nI C.length) from congrArg Sum.inl hr.2.2.2.1]
        exact fin _ _ (Or.inl ⟨h43, rfl⟩)
    · rw [e13, r2] at h43
      iterate 2 refine hS _ _ _ _ ?_
      refine And.intro (fun h47 => ?_) (fun h47 => ?_)
      · rw [hb] at h47
        have hw := bI_t h47
        iterate 8 refine hS _ _ _ _ ?_
        refine And.intro (fun h65 => ?_) (fun h65 => ?_)
        · iterate 5 refine hS _ _ _ _ ?_
          rw [show gfv M 30 0 0 14 = .inl T.2.2.2 from congrArg Sum.inl (e14 (Or.inr (Or.inl hw.1)))]
          refine sm_nameOf (by omega) hk ek' ?_
          refine hS _ _ _ _ ?_
          rw [show gfv M 30 0 0 20 = .inl (nI C.length) from congrArg Sum.inl hr.2.2.2.1]
          obtain ⟨q, hq, eq, -, -, en⟩ := nmF_mem hk hw.2
          exact fin _ _ (Or.inr ⟨hw.1, hw.2, congrArg (10000 + ·) en.symm⟩)
        · exact absurd (r2.mp (e13.symm.trans h65)) h43
      · rw [hb] at h47
        have hw := bI_f h47
        iterate 2 refine hS _ _ _ _ ?_
        refine ⟨rfl, ?_⟩
        exact k0 h43 (fun z => Classical.byContradiction fun y => hw ⟨z, y⟩)
  iterate 4 refine hS _ _ _ _ ?_
  refine And.intro (fun h5 => ?_) (fun h5 => ?_)
  · rw [e13, r1] at h5
    refine hS _ _ _ _ ?_
    exact rest 0 (bI_n (fun z => h5 z.1)).symm
  · rw [e13, r1] at h5
    iterate 7 refine hS _ _ _ _ ?_
    refine And.intro (fun h18 => ?_) (fun h18 => ?_)
    · rw [es] at h18
      have en : nmF T ky = -1 := iteC_f (fun z => h18 (congrArg nI z.2))
      refine hS _ _ _ _ ?_
      exact rest 0 (bI_n (fun z => z.2 (by rw [en]; decide))).symm
    · rw [es] at h18
      have en : nmF T ky = ixF (3 + ky) T.2.2.2 0 (sLen (3 + ky)) := iteC_t ⟨h5, (nI_eq (b := 1) (by omega) (by decide)).mp h18⟩
      iterate 4 refine hS _ _ _ _ ?_
      rw [show gfv M 30 0 0 14 = .inl T.2.2.2 from congrArg Sum.inl (e14 (Or.inr (Or.inl h5)))]
      refine sm_nameOf (by omega) hk ek' ?_
      rw [← en]
      refine hS _ _ _ _ ?_
      refine And.intro (fun h29 => ?_) (fun h29 => ?_)
      · refine hS _ _ _ _ ?_
        exact rest 0 (bI_n (fun z => z.2 h29)).symm
      · iterate 2 refine hS _ _ _ _ ?_
        exact rest 1 (bI_p ⟨h5, h29⟩).symm
end W49
