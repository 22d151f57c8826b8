-- 50.pure21: questions: brought, whose
def brF (h : Nat → Nat) : Nat → Nat × Nat
  | 0 => (0, 31)
  | n + 1 => if h n < (brF h n).2 then (n + 1, h n) else brF h n
theorem brF_s {h : Nat → Nat} {n : Nat} : brF h (n + 1) = if h n < (brF h n).2 then (n + 1, h n) else brF h n := rfl
theorem brF_le {h : Nat → Nat} : ∀ n, (brF h n).1 ≤ n ∧ (brF h n).2 ≤ 31 := by
  intro n
  induction n with
  | zero => exact ⟨Nat.le_refl _, Nat.le_refl _⟩
  | succ n ih =>
    rw [brF_s]
    split
    · exact ⟨Nat.le_refl _, by show h n ≤ 31; omega⟩
    · exact ⟨by omega, ih.2⟩
theorem brF_0 {h : Nat → Nat} {n : Nat} (h0 : (brF h n).2 = 0) : ∀ m, brF h (n + m) = brF h n := by
  intro m
  induction m with
  | zero => rfl
  | succ m ih =>
    rw [show n + (m + 1) = (n + m) + 1 from rfl, brF_s, ih, h0, if_neg (by omega)]
noncomputable def hkF (f : FA) (p k : Nat) : Nat := hbF (upd f (11 + 4 * (k / 8)) (nI (k % 8))) p 0 31
def br1 (r : Nat × Nat) (w : Int32) : Int32 := if r.1 = 0 then -1000000005 else if w = 0 then nI ((r.1 - 1) / 8) else if w = 1 then nI ((r.1 - 1) % 8) else nI r.2
noncomputable def broughtV (f : FA) (p w : Int32) : Int32 := iteC (isBd (cP f) p ∧ isBd 3 w) (br1 (brF (hkF f p.toNatClampNeg) (8 * cB f)) w) (-1000000001)
def frI (r : Nat) : Int32 := if r = 0 then -1 else nI ((r - 1) / 8)
def ftI (r : Nat) : Int32 := if r = 0 then 0 else nI ((r - 1) % 8)
theorem hk_wf {f : FA} {k : Nat} (hW : WF 10000 f) (hk : k / 8 < 10) : WF 10000 (upd f (11 + 4 * (k / 8)) (nI (k % 8))) := wf_bed hW (by omega) (by omega) (Or.inl ⟨k % 8, Nat.mod_lt _ (by decide), rfl⟩)
theorem toldF_cg {f : FA} {p : Nat} {c c' : FA} : ∀ n, (∀ k, k < n → c k = c' k) → toldF f p c n = toldF f p c' n := by
  intro n
  induction n with
  | zero => intro _; rfl
  | succ n ih =>
    intro h
    unfold toldF
    rw [ih (fun k hk => h k (by omega)), h n (by omega)]
def cellsF (M : Mem) (s : Nat) : FA := fun k => M 60 0 0 (24 * s + k)
noncomputable def wh1 (f : FA) (c : FA) (n : Nat) (w : Int32) : Int32 := if cP f = 0 then -1000000005 else if w = 0 then nI (amF (fun p => toldF f p c n) (cP f - 1)).1 else nI (amF (fun p => toldF f p c n) (cP f - 1)).2
noncomputable def whoseV (M : Mem) (s w : Int32) : Int32 := iteC (isBd 4 s ∧ isBd 2 w) (if M 58 0 0 s.toNatClampNeg < 0 then -1000000011 else wh1 (M 31 0 0) (cellsF M s.toNatClampNeg) (M 59 0 0 s.toNatClampNeg).toNatClampNeg w) (-1000000001)
theorem FrS.q {M M' : Mem} (h : FrS M M') {k : Nat} (hk : (8 < k ∧ k < 14) ∨ (14 < k ∧ k < 31) ∨ k = 0 ∨ k = 32 ∨ k = 40 ∨ k = 48 ∨ k = 49 ∨ (57 < k ∧ k < 65) ∨ 65 < k) : M' k = M k := h.kd (fun i => by unfold Sc; omega)
theorem c_brought {M : Mem} {Q : PQ} {d : Nat} {p w : Int32} (hd : 500 ≤ d) (hI : INV M) (hQ : ∀ M', FrS M M' → Q (some (.inl (broughtV (M 31 0 0) p w))) M') : Td PR d 86 [.inr (0, 0, 0), .inl p, .inl w] M Q := by
  have hL := hI.ll
  have hC := hI.cn
  have hb10 := hL.b10
  have hp9 := hL.p9
  have ht14 := hL.t14
  generalize hV : broughtV (M 31 0 0) p w = W at hQ
  have clp : ∀ j, j < cP (M 31 0 0) → ∀ W, br1 (brF (hkF (M 31 0 0) j) (8 * cB (M 31 0 0))) w = W → ∀ Q : PQ, (∀ M', FrS M M' → Q (some (.inl W)) M') → ∀ {e : Nat} (S : CF), Clo (Td PR e) (some .int) T_X9_brought Q S → 20 ≤ e → S 32 [some (.inr (0, 0, 0)), some (.inl (nI j)), some (.inl w), some (.inl (-1)), some (.inl 0), some (.inl 31), some (.inl 0), none, none] [] M := by
    intro j hj W hV Q hQ e S hS he
    generalize hh : hkF (M 31 0 0) j = h at hV
    have hle := brF_le (h := h)
    refine lp_up (T := fun i => ∀ o7 o8 M', FrS M M' → S 32 [some (.inr (0, 0, 0)), some (.inl (nI j)), some (.inl w), some (.inl (frI (brF h (8 * i)).1)), some (.inl (ftI (brF h (8 * i)).1)), some (.inl (nI (brF h (8 * i)).2)), some (.inl (nI i)), o7, o8] [] M') (N := cB (M 31 0 0)) ?_ ?_ 0 (Nat.zero_le _) none none M FrS.rf
    · intro o7 o8 M' a1
      have hI' := hI.sc a1
      have eb : M' 1 0 0 2 = nI (cB (M 31 0 0)) := by rw [← a1.1]; exact hI'.ll.bc
      have hl := hle (8 * cB (M 31 0 0))
      generalize brF h (8 * cB (M 31 0 0)) = r at *
      unfold br1 at hV
      iterate 5 refine hS _ _ _ _ ?_
      refine And.intro (fun h41 => ?_) (fun h41 => ?_)
      · iterate 2 refine hS _ _ _ _ ?_
        refine And.intro (fun h128 => ?_) (fun h128 => ?_)
        · have hr : ¬ r.1 = 0 := fun z => absurd h128 (by unfold frI; rw [if_pos z]; decide)
          rw [if_neg hr] at hV
          iterate 2 refine hS _ _ _ _ ?_
          refine And.intro (fun h135 => ?_) (fun h135 => ?_)
          · rw [if_neg h135] at hV
            iterate 3 refine hS _ _ _ _ ?_
            refine And.intro (fun h144 => ?_) (fun h144 => ?_)
            · iterate 2 refine hS _ _ _ _ ?_
              rw [if_neg h144] at hV
              exact qv (hQ _ a1) hV.symm
            · iterate 3 refine hS _ _ _ _ ?_
              rw [if_pos h144] at hV
              refine qv (hQ _ a1) ?_
              rw [← hV, ftI, if_neg hr]
          · iterate 3 refine hS _ _ _ _ ?_
            rw [if_pos h135] at hV
            refine qv (hQ _ a1) ?_
            rw [← hV, frI, if_neg hr]
        · have hr : r.1 = 0 := Classical.byContradiction fun z => h128 (by unfold frI; rw [if_neg z]; exact nI_pos' (show (r.1 - 1) / 8 < 2 ^ 31 by omega))
          rw [if_pos hr] at hV
          iterate 2 refine hS _ _ _ _ ?_
          exact qv (hQ _ a1) hV.symm
      · exact (lp_x eb h41).elim
    · intro i hi ih o7 o8 M' a1
      have hI' := hI.sc a1
      have eb : M' 1 0 0 2 = nI (cB (M 31 0 0)) := by rw [← a1.1]; exact hI'.ll.bc
      have inn : ∀ o M2, FrS M M2 → S 47 [some (.inr (0, 0, 0)), some (.inl (nI j)), some (.inl w), some (.inl (frI (brF h (8 * i)).1)), some (.inl (ftI (brF h (8 * i)).1)), some (.inl (nI (brF h (8 * i)).2)), some (.inl (nI i)), some (.inl 0), o] [] M2 := by
        intro o M2 b1
        have nxt : ∀ t, t ≤ 8 → brF h (8 * i + t) = brF h (8 * (i + 1)) → ∀ M3 (o' : Option AV) (o2 : Option AV), FrS M M3 → S 121 [some (.inr (0, 0, 0)), some (.inl (nI j)), some (.inl w), some (.inl (frI (brF h (8 * i + t)).1)), some (.inl (ftI (brF h (8 * i + t)).1)), some (.inl (nI (brF h (8 * i + t)).2)), some (.inl (nI i)), o', o2] [] M3 := by
          intro t ht e M3 o' o2 c1
          iterate 2 refine hS _ _ _ _ ?_
          have := ih o' o2 M3 c1
          rw [nI_succ] at this
          rw [e]
          exact this
        refine lp_up (T := fun t => ∀ o M3, FrS M M3 → S 47 [some (.inr (0, 0, 0)), some (.inl (nI j)), some (.inl w), some (.inl (frI (brF h (8 * i + t)).1)), some (.inl (ftI (brF h (8 * i + t)).1)), some (.inl (nI (brF h (8 * i + t)).2)), some (.inl (nI i)), some (.inl (nI t)), o] [] M3) (N := 8) ?_ ?_ 0 (Nat.zero_le _) o M2 b1
        · intro o M3 c1
          iterate 3 refine hS _ _ _ _ ?_
          refine And.intro (fun h51 => ?_) (fun h51 => ?_)
          · exact nxt 8 (by omega) rfl M3 _ _ c1
          · exact (lp_x (n := 8) rfl h51).elim
        · intro t ht iht o M3 c1
          have hI3 := hI.sc c1
          have hL3 : LL M3 0 (M 31 0 0) := by rw [← c1.1]; exact hI3.ll
          have hT3 : TX M3 (M 31 0 0) := by rw [← c1.1]; exact hI3.tx
          have ek : (8 * i + t) / 8 = i := by omega
          have em : (8 * i + t) % 8 = t := by omega
          have wf := hk_wf (k := 8 * i + t) hI.wf (by omega)
          have hc := hbF_cut (f := upd (M 31 0 0) (11 + 4 * i) (nI t)) (p := j) (brF h (8 * i + t)).2 31 0 (hle _).2
          have eh : hbF (upd (M 31 0 0) (11 + 4 * i) (nI t)) j 0 31 = h (8 * i + t) := by rw [← hh, hkF, ek, em]
          rw [ek, em] at wf
          have kp : KP (M 31 0 0) (upd (M 31 0 0) (11 + 4 * i) (nI t)) := KP.up (by omega)
          rw [eh] at hc
          have hbs := brF_s (h := h) (n := 8 * i + t)
          have hl2 := (hle (8 * i + t)).2
          rw [show 8 * i + (t + 1) = 8 * i + t + 1 from rfl] at iht
          iterate 3 refine hS _ _ _ _ ?_
          refine And.intro (fun h51 => ?_) (fun h51 => ?_)
          · exact (lp_s (n := 8) rfl ht (by omega) h51).elim
          · iterate 2 refine hS _ _ _ _ ?_
            refine And.intro (fun h56 => ?_) (fun h56 => ?_)
            · have h0 : (brF h (8 * i + t)).2 = 0 := Nat.eq_zero_of_not_pos fun z => nI_nle z (by omega) h56
              exact nxt t (by omega) (by have := brF_0 h0 (8 - t); rw [show 8 * i + t + (8 - t) = 8 * (i + 1) by omega] at this; exact this.symm) M3 _ _ c1
            · have h0 : 0 < (brF h (8 * i + t)).2 := Nat.pos_of_ne_zero fun z => h56 (by rw [z]; decide)
              iterate 5 refine hS _ _ _ _ ?_
              refine sp_landAs (by omega) (by decide) hL3 (fun M4 f4 l4 => ?_)
              iterate 5 refine hS _ _ _ _ ?_
              refine ⟨(by first | assumption | exact vp_in_nI (by simp only [alen]; omega) (by decide)), ?_⟩
              try rw [nI_clamp (by omega)]
              iterate 3 refine hS _ _ _ _ ?_
              generalize hM5 : mu M4 3 1 i 1 (nI t) = M5
              have l5 : LL M5 1 (upd (M 31 0 0) (11 + 4 * i) (nI t)) := by rw [← hM5]; exact l4.b1 hi
              have f5 : Fl 1 M4 M5 := by rw [← hM5]; exact Fl.mu1 (by omega)
              iterate 6 refine hS _ _ _ _ ?_
              rw [nI_m1' h0]
              refine sp_nightsUntilHome (f := upd (M 31 0 0) (11 + 4 * i) (nI t)) (m := (brF h (8 * i + t)).2 - 1) (K := 10000) (by omega) (by rw [kp.cp]; exact hj) l5 (((f4.tr f5).fn.tx hT3).cg kp.2.2.2.2 rfl rfl) wf (by omega) (fun M6 f6 => ?_)
              have fs : FrS M M6 := c1.tr ((f4.tr f5).sc.tr f6.sc)
              rw [show (brF h (8 * i + t)).2 - 1 + 1 = (brF h (8 * i + t)).2 by omega, hc, Nat.zero_add]
              iterate 3 refine hS _ _ _ _ ?_
              refine And.intro (fun h101 => ?_) (fun h101 => ?_)
              · have hn : ¬ h (8 * i + t) < (brF h (8 * i + t)).2 := fun z => absurd h101 (by rw [if_pos z, if_pos (by omega)]; exact nI_pos (by omega))
                iterate 2 refine hS _ _ _ _ ?_
                rw [hbs, if_neg hn, nI_succ t] at iht
                exact iht _ M6 fs
              · have hn : h (8 * i + t) < (brF h (8 * i + t)).2 := Classical.byContradiction fun z => h101 (by rw [if_neg z, if_neg (by omega)]; decide)
                iterate 8 refine hS _ _ _ _ ?_
                rw [hbs, if_pos hn] at iht
                have := iht (some (.inl (nI (h (8 * i + t))))) M6 fs
                rw [nI_succ] at this
                refine slv this ?_
                rw [if_pos hn, if_pos (show h (8 * i + t) ≤ (brF h (8 * i + t)).2 - 1 by omega)]
                have x1 : frI (8 * i + t + 1) = nI i := by unfold frI; rw [if_neg (by omega)]; exact congrArg nI (by omega)
                have x2 : ftI (8 * i + t + 1) = nI t := by unfold ftI; rw [if_neg (by omega)]; exact congrArg nI (by omega)
                rw [show (8 * i + t + 1, h (8 * i + t)).1 = 8 * i + t + 1 from rfl, x1, x2]
                rfl
      iterate 5 refine hS _ _ _ _ ?_
      refine And.intro (fun h41 => ?_) (fun h41 => ?_)
      · exact (lp_s eb hi (by omega) h41).elim
      · iterate 2 refine hS _ _ _ _ ?_
        exact inn _ M' a1
  obtain ⟨e, rfl⟩ : ∃ e, d = e + 1 := ⟨d - 1, by omega⟩
  refine td_X9_brought ?_
  intro S hS
  iterate 3 refine hS _ _ _ _ ?_
  refine sp_isOne (by omega) hL ?_
  refine hS _ _ _ _ ?_
  refine And.intro (fun h5 => ?_) (fun h5 => ?_)
  · replace h5 := bI_f h5
    iterate 2 refine hS _ _ _ _ ?_
    rw [broughtV, iteC_f (fun z => h5 z.1)] at hV
    exact qv (hQ _ FrS.rf) hV.symm
  · replace h5 := bI_t h5
    iterate 2 refine hS _ _ _ _ ?_
    refine And.intro (fun h9 => ?_) (fun h9 => ?_)
    · iterate 2 refine hS _ _ _ _ ?_
      rw [broughtV, iteC_f (fun z => isBd_lo h9 (by omega) z.2)] at hV
      exact qv (hQ _ FrS.rf) hV.symm
    · iterate 3 refine hS _ _ _ _ ?_
      refine And.intro (fun h14 => ?_) (fun h14 => ?_)
      · have hw : isBd 3 w := (in_bd1 (n := 2) (by omega)).mp ⟨h9, Int32.not_lt.mpr h14⟩
        rw [broughtV, iteC_t ⟨h5, hw⟩] at hV
        obtain ⟨j, hj, rfl⟩ := h5
        rw [nI_clamp (by omega)] at hV
        iterate 8 refine hS _ _ _ _ ?_
        exact clp j hj W hV Q hQ _ hS (by omega)
      · iterate 2 refine hS _ _ _ _ ?_
        rw [broughtV, iteC_f (fun z => ((in_bd1 (n := 2) (by omega)).mpr z.2).2 (nle_lt h14))] at hV
        exact qv (hQ _ FrS.rf) hV.symm
theorem m_brought {M : Mem} {Q : PQ} {d : Nat} {p w : Int32} (hd : 500 ≤ d) (hI : INV M) (hQ : ∀ M', FrS M M' → Q (some (.inl (broughtV (M 31 0 0) p w))) M') : Td PR d 175 [.inr (30, 0, 0), .inl p, .inl w] M Q := by
  have hL := hI.ll
  have hC := hI.cn
  have hb10 := hL.b10
  have hp9 := hL.p9
  have ht14 := hL.t14
  generalize hV : broughtV (M 31 0 0) p w = W at hQ
  have mlp : ∀ j, j < cP (M 31 0 0) → ∀ W, br1 (brF (hkF (M 31 0 0) j) (8 * cB (M 31 0 0))) w = W → ∀ Q : PQ, (∀ M', FrS M M' → Q (some (.inl W)) M') → ∀ {e : Nat} (S : CF), Clo (Td PR e) (some .int) T_X10_brought Q S → 20 ≤ e → ∀ M1, Fh M M1 → M1 31 0 0 = M 31 0 0 → (∀ i, i < 86 → M1 38 0 0 i = M 31 0 0 i) → S 33 [some (.inr (30, 0, 0)), some (.inl (nI j)), some (.inl w), some (.inl (-1)), some (.inl 31), some (.inl 0), none] [] M1 := by
    intro j hj W hV Q hQ e S hS he M1 a1 a2 a3
    generalize hf : M 31 0 0 = f at *
    generalize hh : hkF f j = h at hV
    have hle := brF_le (h := h)
    have hWf := hI.wf
    rw [hf] at hWf
    refine lp_up (T := fun i => ∀ o M', Fh M M' → M' 31 0 0 = f → (∀ i, i < 86 → M' 38 0 0 i = f i) → ∀ b, b = nI (brF h i).1 - 1 → S 33 [some (.inr (30, 0, 0)), some (.inl (nI j)), some (.inl w), some (.inl b), some (.inl (nI (brF h i).2)), some (.inl (nI i)), o] [] M') (N := 8 * cB f) ?_ ?_ 0 (Nat.zero_le _) none M1 a1 a2 a3 (-1) (show (-1 : Int32) = nI 0 - 1 by decide)
    · intro o M' a1 a2 a3 b hb
      have e8 : (8 : Int32) * M' 31 0 0 1 = nI (8 * cB f) := by rw [a2, hC.1]; exact nI_mul 8 _
      have hl := hle (8 * cB f)
      generalize brF h (8 * cB f) = r at *
      unfold br1 at hV
      iterate 6 refine hS _ _ _ _ ?_
      refine ⟨vp_l rfl, ?_⟩
      try rw [show Int32.toNatClampNeg 1 = 1 from rfl]
      iterate 2 refine hS _ _ _ _ ?_
      refine And.intro (fun h44 => ?_) (fun h44 => ?_)
      · iterate 2 refine hS _ _ _ _ ?_
        refine And.intro (fun h92 => ?_) (fun h92 => ?_)
        · have hr : ¬ r.1 = 0 := fun z => absurd h92 (by rw [hb, z]; decide)
          rw [if_neg hr] at hV
          rw [nI_m1' (by omega)] at hb
          subst hb
          have ed : nI (r.1 - 1) / 8 = nI ((r.1 - 1) / 8) := nI_divn (b := 8) (by omega) (by decide)
          have em : irem (nI (r.1 - 1)) 8 = nI ((r.1 - 1) % 8) := irem_nI (b := 8) (by omega) (by decide)
          iterate 2 refine hS _ _ _ _ ?_
          refine And.intro (fun h101 => ?_) (fun h101 => ?_)
          · rw [if_neg h101] at hV
            iterate 3 refine hS _ _ _ _ ?_
            refine And.intro (fun h113 => ?_) (fun h113 => ?_)
            · iterate 2 refine hS _ _ _ _ ?_
              rw [if_neg h113] at hV
              exact qv (hQ _ (a1.sc (by rw [a2, hf]))) hV.symm
            · iterate 3 refine hS _ _ _ _ ?_
              refine ⟨by decide, ?_⟩
              iterate 2 refine hS _ _ _ _ ?_
              rw [if_pos h113] at hV
              exact qv (hQ _ (a1.sc (by rw [a2, hf]))) (hV.symm.trans em.symm)
          · iterate 3 refine hS _ _ _ _ ?_
            refine ⟨by decide, ?_⟩
            iterate 2 refine hS _ _ _ _ ?_
            rw [if_pos h101] at hV
            exact qv (hQ _ (a1.sc (by rw [a2, hf]))) (hV.symm.trans ed.symm)
        · have hr : r.1 = 0 := Classical.byContradiction fun z => h92 (by rw [hb, nI_m1' (by omega)]; exact nI_pos' (by omega))
          rw [if_pos hr] at hV
          iterate 3 refine hS _ _ _ _ ?_
          exact qv (hQ _ (a1.sc (by rw [a2, hf]))) hV.symm
      · exact (lp_x e8 h44).elim
    · intro i hi ih o M' a1 a2 a3 b hb
      have e8 : (8 : Int32) * M' 31 0 0 1 = nI (8 * cB f) := by rw [a2, hC.1]; exact nI_mul 8 _
      have hi8 : i / 8 < cB f := by omega
      have ed : nI i / 8 = nI (i / 8) := nI_divn (b := 8) (by omega) (by decide)
      have em : irem (nI i) 8 = nI (i % 8) := irem_nI (b := 8) (by omega) (by decide)
      have wf := hk_wf (k := i) hWf (by omega)
      have kp : KP f (upd f (11 + 4 * (i / 8)) (nI (i % 8))) := KP.up (by omega)
      have eh : hbF (upd f (11 + 4 * (i / 8)) (nI (i % 8))) j 0 (30 + 1) = h i := by rw [← hh]; rfl
      have mM : mu M' 31 0 0 (11 + 4 * (i / 8)) (nI (i % 8)) 31 0 0 = upd f (11 + 4 * (i / 8)) (nI (i % 8)) := by rw [upd_mu, a2]
      have hl2 := (hle i).2
      iterate 6 refine hS _ _ _ _ ?_
      refine ⟨vp_l rfl, ?_⟩
      try rw [show Int32.toNatClampNeg 1 = 1 from rfl]
      iterate 2 refine hS _ _ _ _ ?_
      refine And.intro (fun h44 => ?_) (fun h44 => ?_)
      · exact (lp_s e8 hi (by omega) h44).elim
      · iterate 4 refine hS _ _ _ _ ?_
        refine ⟨by decide, ?_⟩
        rw [ed]
        iterate 4 refine hS _ _ _ _ ?_
        refine ⟨by decide, ?_⟩
        rw [em]
        refine hS _ _ _ _ ?_
        refine sm_put1 (by omega) (by omega) ?_
        iterate 4 refine hS _ _ _ _ ?_
        refine sm_homeBy (m := 30) (K := 10000) (f := upd f (11 + 4 * (i / 8)) (nI (i % 8))) (g := f) (by omega) (by rw [kp.cp]; exact hj) mM wf.1 (by omega) (by omega) a3 (fun q hq => upd_ne (by omega)) (fun M3 f3 e3 => ?_)
        rw [eh]
        have fh : Fh M M3 := a1.tr ((Fh.o (fun k hk => mz_k hk)).tr (Fh.m f3))
        have e38 : ∀ q, q < 86 → M3 38 0 0 q = f q := fun q hq => by rw [f3 38 (by decide) (by decide) (by decide) (by decide)]; exact a3 q hq
        iterate 4 refine hS _ _ _ _ ?_
        refine And.intro (fun h75 => ?_) (fun h75 => ?_)
        · have hn : ¬ h i < (brF h i).2 := fun z => absurd h75 (nI_ge z (by omega))
          iterate 2 refine hS _ _ _ _ ?_
          have := ih (some (.inl (nI (h i)))) M3 fh e3 e38 b (by rw [brF_s, if_neg hn]; exact hb)
          rw [brF_s, if_neg hn, nI_succ] at this
          exact this
        · have hn : h i < (brF h i).2 := Nat.lt_of_not_le fun z => h75 (nI_le z (by rw [← eh]; have := hbF_le (f := upd f (11 + 4 * (i / 8)) (nI (i % 8))) (p := j) (30 + 1) 0; omega))
          iterate 6 refine hS _ _ _ _ ?_
          have := ih (some (.inl (nI (h i)))) M3 fh e3 e38 (nI i) (by rw [brF_s, if_pos hn, nI_pred])
          rw [brF_s, if_pos hn, nI_succ] at this
          exact this
  obtain ⟨e, rfl⟩ : ∃ e, d = e + 1 := ⟨d - 1, by omega⟩
  refine td_X10_brought ?_
  intro S hS
  iterate 3 refine hS _ _ _ _ ?_
  refine sm_isOne (by omega) hC ?_
  refine hS _ _ _ _ ?_
  refine And.intro (fun h5 => ?_) (fun h5 => ?_)
  · replace h5 := bI_f h5
    iterate 2 refine hS _ _ _ _ ?_
    rw [broughtV, iteC_f (fun z => h5 z.1)] at hV
    exact qv (hQ _ FrS.rf) hV.symm
  · replace h5 := bI_t h5
    iterate 4 refine hS _ _ _ _ ?_
    refine sm_in (by omega) ?_
    refine hS _ _ _ _ ?_
    refine And.intro (fun h14 => ?_) (fun h14 => ?_)
    · replace h14 := bI_t h14
      replace h14 := (in_bd1 (n := 2) (by omega)).mp h14
      rw [broughtV, iteC_t ⟨h5, h14⟩] at hV
      obtain ⟨j, hj, rfl⟩ := h5
      rw [nI_clamp (by omega)] at hV
      iterate 2 refine hS _ _ _ _ ?_
      refine sm_thinks (by omega) (fun M1 f1 e1 => ?_)
      have e31 : M1 31 = M 31 := f1 31 (by decide)
      iterate 6 refine hS _ _ _ _ ?_
      exact mlp j hj W hV Q hQ _ hS (by omega) M1 (Fh.t f1) (by rw [e31]) e1
    · replace h14 := bI_f h14
      replace h14 := fun z => h14 ((in_bd1 (n := 2) (by omega)).mpr z)
      iterate 2 refine hS _ _ _ _ ?_
      rw [broughtV, iteC_f (fun z => h14 z.2)] at hV
      exact qv (hQ _ FrS.rf) hV.symm
theorem op_brought {p w : Int32} : OpOK 86 175 [.inl p, .inl w] := op_q (fun M => broughtV (M 31 0 0) p w) (fun M Q d hd hI hQ => c_brought hd hI hQ) (fun M Q d hd hI hQ => m_brought hd hI hQ) (fun M M' h => by simp only [h.k31])
theorem c_whose {M : Mem} {Q : PQ} {d : Nat} {s w : Int32} (hd : 500 ≤ d) (hI : INV M) (hQ : ∀ M', FrS M M' → Q (some (.inl (whoseV M s w))) M') : Td PR d 89 [.inr (0, 0, 0), .inl s, .inl w] M Q := by
  have hL := hI.ll
  have hC := hI.cn
  have hb10 := hL.b10
  have hp9 := hL.p9
  have ht14 := hL.t14
  generalize hV : whoseV M s w = W at hQ
  have clp : ∀ j n, j < 4 → n ≤ 24 → M 16 j 0 1 = nI n → ¬ cP (M 31 0 0) = 0 → (∀ p, toldF (M 31 0 0) p (M 17 j 0) n = toldF (M 31 0 0) p (cellsF M j) n) → ∀ W, (if w = 0 then nI (amF (fun p => toldF (M 31 0 0) p (cellsF M j) n) (cP (M 31 0 0) - 1)).1 else nI (amF (fun p => toldF (M 31 0 0) p (cellsF M j) n) (cP (M 31 0 0) - 1)).2) = W → ∀ Q : PQ, (∀ M', FrS M M' → Q (some (.inl W)) M') → ∀ {e : Nat} (S : CF), Clo (Td PR e) (some .int) T_X9_whose Q S → 20 ≤ e → S 58 [some (.inr (0, 0, 0)), some (.inl (nI j)), some (.inl w), some (.inr (16, j, 0)), some (.inl 0), some (.inl (-1)), some (.inl 0), none] [] M := by
    intro j n hj hn r4 hz ec W hV Q hQ e S hS he
    generalize hh : (fun p => toldF (M 31 0 0) p (cellsF M j) n) = h at hV
    have eh : ∀ p, toldF (M 31 0 0) p (M 17 j 0) n = h p := fun p => by rw [ec, ← hh]
    have hh9 : ∀ v, h v ≤ 24 := fun v => by rw [← hh]; exact Nat.le_trans (toldF_le n) hn
    refine lp_up (T := fun i => ∀ o M', FrS M M' → ∀ b m, (if i = 0 then b = 0 ∧ m = -1 else b = nI (amF h (i - 1)).1 ∧ m = nI (amF h (i - 1)).2) → S 58 [some (.inr (0, 0, 0)), some (.inl (nI j)), some (.inl w), some (.inr (16, j, 0)), some (.inl b), some (.inl m), some (.inl (nI i)), o] [] M') (N := cP (M 31 0 0)) ?_ ?_ 0 (Nat.zero_le _) none M FrS.rf 0 (-1) (by rw [if_pos rfl]; exact ⟨rfl, rfl⟩)
    · intro o M' a1 b m hbm
      have hI' := hI.sc a1
      have eb : M' 1 0 0 4 = nI (cP (M 31 0 0)) := by rw [← a1.1]; exact hI'.ll.pc
      rw [if_neg hz] at hbm
      obtain ⟨rfl, rfl⟩ := hbm
      iterate 5 refine hS _ _ _ _ ?_
      refine And.intro (fun h67 => ?_) (fun h67 => ?_)
      · iterate 2 refine hS _ _ _ _ ?_
        refine And.intro (fun h115 => ?_) (fun h115 => ?_)
        · iterate 2 refine hS _ _ _ _ ?_
          rw [if_neg h115] at hV
          exact qv (hQ _ a1) hV.symm
        · iterate 3 refine hS _ _ _ _ ?_
          rw [if_pos h115] at hV
          exact qv (hQ _ a1) hV.symm
      · exact (lp_x eb h67).elim
    · intro i hi ih o M' a1 b m hbm
      have hI' := hI.sc a1
      have hL' : LL M' 0 (M 31 0 0) := by rw [← a1.1]; exact hI'.ll
      have hT' : TX M' (M 31 0 0) := by rw [← a1.1]; exact hI'.tx
      have eb : M' 1 0 0 4 = nI (cP (M 31 0 0)) := hL'.pc
      have hle := (amF_le hh9 (i - 1))
      have e16 : M' 16 = M 16 := a1.q (by omega)
      have e17 : M' 17 = M 17 := a1.q (by omega)
      have hri : ∀ o2 M2, FrS M M2 → ∀ b2 m2, b2 = nI (amF h i).1 → m2 = nI (amF h i).2 → S 58 [some (.inr (0, 0, 0)), some (.inl (nI j)), some (.inl w), some (.inr (16, j, 0)), some (.inl b2), some (.inl m2), some (.inl (nI i + 1)), o2] [] M2 := by
        intro o2 M2 c1 b2 m2 e1 e2
        have := ih o2 M2 c1 b2 m2 (by rw [if_neg (by omega)]; exact ⟨e1, e2⟩)
        rw [nI_succ] at this
        exact this
      iterate 5 refine hS _ _ _ _ ?_
      refine And.intro (fun h67 => ?_) (fun h67 => ?_)
      · exact (lp_s eb hi (by omega) h67).elim
      · iterate 5 refine hS _ _ _ _ ?_
        refine sp_landAs (by omega) (by decide) hL' (fun M1 f1 l1 => ?_)
        have g16 : M1 16 = M 16 := (f1.sc.q (by omega)).trans e16
        have g17 : M1 17 = M 17 := (f1.sc.q (by omega)).trans e17
        iterate 5 refine hS _ _ _ _ ?_
        refine sp_nightsTold (n := n) (K := 10000) (by omega) hi l1 (f1.fn.tx hT') hI.wf (by omega) (by rw [g16]; exact r4) hn (fun M3 f3 => ?_)
        have fs : FrS M M3 := a1.tr (f1.sc.tr f3.sc)
        rw [g17, eh]
        iterate 4 refine hS _ _ _ _ ?_
        refine And.intro (fun h97 => ?_) (fun h97 => ?_)
        · rcases Nat.eq_zero_or_pos i with z | z
          · rw [if_pos z] at hbm
            rw [hbm.2] at h97
            exact absurd h97 (by rw [Int32.not_le]; exact Int32.lt_of_lt_of_le (by decide) (nI_pos' (by have := hh9 i; omega)))
          rw [if_neg (by omega)] at hbm
          rw [hbm.2] at h97
          have hn : ¬ (amF h (i - 1)).2 < h i := fun y => absurd h97 (nI_ge y (by have := hh9 i; omega))
          have ea : amF h i = amF h (i - 1) := by
            obtain ⟨x, rfl⟩ : ∃ x, i = x + 1 := ⟨i - 1, by omega⟩
            rw [amF_s, Nat.add_sub_cancel] at *
            rw [if_neg hn]
          iterate 2 refine hS _ _ _ _ ?_
          exact hri _ M3 fs _ _ (by rw [ea]; exact hbm.1) (by rw [ea]; exact hbm.2)
        · have ea : amF h i = (i, h i) := by
            rcases Nat.eq_zero_or_pos i with z | z
            · subst z; rfl
            · rw [if_neg (by omega)] at hbm
              rw [hbm.2] at h97
              have hn : (amF h (i - 1)).2 < h i := Nat.lt_of_not_le fun y => h97 (nI_le y (by omega))
              obtain ⟨x, rfl⟩ : ∃ x, i = x + 1 := ⟨i - 1, by omega⟩
              rw [amF_s, Nat.add_sub_cancel] at *
              rw [if_pos hn]
          iterate 6 refine hS _ _ _ _ ?_
          exact hri _ M3 fs _ _ (by rw [ea]) (by rw [ea])
  obtain ⟨e, rfl⟩ : ∃ e, d = e + 1 := ⟨d - 1, by omega⟩
  refine td_X9_whose ?_
  intro S hS
  iterate 2 refine hS _ _ _ _ ?_
  refine sp_isSheet (by omega) ?_
  refine hS _ _ _ _ ?_
  refine And.intro (fun h4 => ?_) (fun h4 => ?_)
  · replace h4 := bI_f h4
    iterate 2 refine hS _ _ _ _ ?_
    rw [whoseV, iteC_f (fun z => h4 z.1)] at hV
    exact qv (hQ _ FrS.rf) hV.symm
  · replace h4 := bI_t h4
    iterate 2 refine hS _ _ _ _ ?_
    refine And.intro (fun h8 => ?_) (fun h8 => ?_)
    · iterate 2 refine hS _ _ _ _ ?_
      rw [whoseV, iteC_f (fun z => isBd_lo h8 (by omega) z.2)] at hV
      exact qv (hQ _ FrS.rf) hV.symm
    · iterate 3 refine hS _ _ _ _ ?_
      refine And.intro (fun h13 => ?_) (fun h13 => ?_)
      · have hw : isBd 2 w := (in_bd1 (n := 1) (by omega)).mp ⟨h8, Int32.not_lt.mpr h13⟩
        rw [whoseV, iteC_t ⟨h4, hw⟩] at hV
        obtain ⟨j, hj, rfl⟩ := h4
        rw [nI_clamp (by omega)] at hV
        obtain ⟨r1, r2, r3, ⟨n, hn, r4⟩, r5⟩ := hI.2.2.1 j hj
        rw [r1, r2, r4, nI_clamp (by omega)] at hV
        have ec : ∀ p, toldF (M 31 0 0) p (M 17 j 0) n = toldF (M 31 0 0) p (cellsF M j) n := fun p => toldF_cg n (fun k hk => (r5 k (by omega)).symm)
        iterate 4 refine hS _ _ _ _ ?_
        refine ⟨(by first | assumption | exact vp_in_nI (by simp only [alen]; omega) (by decide)), ?_⟩
        try rw [nI_clamp (by omega)]
        iterate 3 refine hS _ _ _ _ ?_
        refine sp_isMissing (by omega) ?_
        refine hS _ _ _ _ ?_
        refine And.intro (fun h30 => ?_) (fun h30 => ?_)
        · replace h30 := bI_f h30
          have hge : ¬ M 16 j 0 0 < 0 := by
            rcases r3 with z | z | z
            · exact absurd z h30
            · rw [z]; decide
            · rw [z]; decide
          rw [if_neg hge, wh1] at hV
          iterate 4 refine hS _ _ _ _ ?_
          refine And.intro (fun h43 => ?_) (fun h43 => ?_)
          · have h43' := h43
            rw [show M 1 0 0 4 = _ from hL.pc] at h43'
            have hz : ¬ cP (M 31 0 0) = 0 := fun z => h43' (by rw [z]; rfl)
            rw [if_neg hz] at hV
            iterate 6 refine hS _ _ _ _ ?_
            exact clp j n (by omega) (by omega) r4 hz ec W hV Q hQ _ hS (by omega)
          · have h43' := h43
            rw [show M 1 0 0 4 = _ from hL.pc] at h43'
            have hz : cP (M 31 0 0) = 0 := (nI_eq (by omega) (by decide)).mp h43'
            rw [if_pos hz] at hV
            iterate 2 refine hS _ _ _ _ ?_
            exact qv (hQ _ FrS.rf) hV.symm
        · replace h30 := bI_t h30
          iterate 2 refine hS _ _ _ _ ?_
          rw [h30, if_pos (by decide)] at hV
          exact qv (hQ _ FrS.rf) hV.symm
      · iterate 2 refine hS _ _ _ _ ?_
        rw [whoseV, iteC_f (fun z => ((in_bd1 (n := 1) (by omega)).mpr z.2).2 (nle_lt h13))] at hV
        exact qv (hQ _ FrS.rf) hV.symm
theorem m_whose {M : Mem} {Q : PQ} {d : Nat} {s w : Int32} (hd : 500 ≤ d) (hI : INV M) (hQ : ∀ M', FrS M M' → Q (some (.inl (whoseV M s w))) M') : Td PR d 179 [.inr (30, 0, 0), .inl s, .inl w] M Q := by
  have hL := hI.ll
  have hC := hI.cn
  have hb10 := hL.b10
  have hp9 := hL.p9
  have ht14 := hL.t14
  generalize hV : whoseV M s w = W at hQ
  have mlp : ∀ j n, j < 4 → n ≤ 24 → M 59 0 0 j = nI n → ∀ W, wh1 (M 31 0 0) (cellsF M j) n w = W → ∀ Q : PQ, (∀ M', FrS M M' → Q (some (.inl W)) M') → ∀ {e : Nat} (S : CF), Clo (Td PR e) (some .int) T_X10_whose Q S → 20 ≤ e → ∀ M1, Fh M M1 → M1 31 0 0 = M 31 0 0 → (∀ i, i < 86 → M1 38 0 0 i = M 31 0 0 i) → S 45 [some (.inr (30, 0, 0)), some (.inl (nI j)), some (.inl w), some (.inl (nI (cP (M 31 0 0)))), some (.inl 0), none, none] [] M1 := by
    intro j n hj hn r4 W hV Q hQ e S hS he M1 a1 a2 a3
    have hwf := hI.wf
    generalize hf : M 31 0 0 = f at *
    have hcl : ∀ k, k < n → M 60 0 0 (24 * j + k) = cellsF M j k := fun k _ => rfl
    generalize hc : cellsF M j = c at *
    have hh9 : ∀ v, toldF f v c n ≤ 24 := fun v => Nat.le_trans (toldF_le n) hn
    -- the best of them
    have bs2 : ∀ M', Fh M M' → M' 31 0 0 = f → (∀ p, p < cP f → M' 39 0 0 p = nI (toldF f p c n)) → ∀ o6, S 155 [some (.inr (30, 0, 0)), some (.inl (nI j)), some (.inl w), some (.inl (nI (cP f))), some (.inl 0), some (.inl 1), o6] [] M' := by
      intro M' b1 b2 b3 o6
      rcases Nat.eq_zero_or_pos (cP f) with z | z
      · rw [wh1, if_pos z] at hV
        rw [z]
        iterate 3 refine hS _ _ _ _ ?_
        refine And.intro (fun h158 => ?_) (fun h158 => ?_)
        · iterate 2 refine hS _ _ _ _ ?_
          refine And.intro (fun h194 => ?_) (fun h194 => ?_)
          · exact absurd rfl h194
          · iterate 3 refine hS _ _ _ _ ?_
            exact qv (hQ _ (b1.sc (by rw [b2, hf]))) hV.symm
        · exact absurd (by decide) h158
      · rw [wh1, if_neg (by omega)] at hV
        have hle := amF_le hh9
        have hex : ∀ q, q < cP f → amF (fun p => toldF f p c n) q = ((amF (fun p => toldF f p c n) q).1, toldF f (amF (fun p => toldF f p c n) q).1 c n) := by
          intro q
          induction q with
          | zero => intro _; rfl
          | succ q ihq =>
            intro hq
            rw [amF_s]
            split
            · rfl
            · exact ihq (by omega)
        have := lp_up (T := fun i => 1 ≤ i → S 155 [some (.inr (30, 0, 0)), some (.inl (nI j)), some (.inl w), some (.inl (nI (cP f))), some (.inl (nI (amF (fun p => toldF f p c n) (i - 1)).1)), some (.inl (nI i)), o6] [] M') (N := cP f) ?_ ?_ 1 z (Nat.le_refl _)
        · exact this
        · intro _
          have hlt := (hle (cP f - 1)).1
          have e2 := hex (cP f - 1) (by omega)
          have e39 := b3 (amF (fun p => toldF f p c n) (cP f - 1)).1 (by omega)
          iterate 3 refine hS _ _ _ _ ?_
          refine And.intro (fun h158 => ?_) (fun h158 => ?_)
          · iterate 2 refine hS _ _ _ _ ?_
            refine And.intro (fun h194 => ?_) (fun h194 => ?_)
            · iterate 2 refine hS _ _ _ _ ?_
              refine And.intro (fun h203 => ?_) (fun h203 => ?_)
              · iterate 4 refine hS _ _ _ _ ?_
                refine ⟨(by first | assumption | exact vp_in_nI (by simp only [alen]; omega) (by decide)), ?_⟩
                try rw [nI_clamp (by omega)]
                refine hS _ _ _ _ ?_
                rw [if_neg h203, e2] at hV
                exact qv (hQ _ (b1.sc (by rw [b2, hf]))) (hV.symm.trans e39.symm)
              · iterate 3 refine hS _ _ _ _ ?_
                rw [if_pos h203] at hV
                exact qv (hQ _ (b1.sc (by rw [b2, hf]))) hV.symm
            · exact absurd h194 (nI_ne0 z (by omega))
          · exact (lp_x rfl h158).elim
        · intro i hi ih hi1
          obtain ⟨x, rfl⟩ : ∃ x, i = x + 1 := ⟨i - 1, by omega⟩
          rw [Nat.add_sub_cancel] at *
          have hlt := (hle x).1
          have e2 := hex x (by omega)
          have ei := b3 (x + 1) hi
          have eb := b3 (amF (fun p => toldF f p c n) x).1 (by omega)
          have g1 := hh9 (x + 1)
          have g2 := hh9 (amF (fun p => toldF f p c n) x).1
          have ih' := ih (by omega)
          iterate 3 refine hS _ _ _ _ ?_
          refine And.intro (fun h158 => ?_) (fun h158 => ?_)
          · exact (lp_s rfl hi (by omega) h158).elim
          · iterate 4 refine hS _ _ _ _ ?_
            refine ⟨(by first | assumption | exact vp_in_nI (by simp only [alen]; omega) (by decide)), ?_⟩
            try rw [nI_clamp (by omega)]
            iterate 4 refine hS _ _ _ _ ?_
            refine ⟨(by first | assumption | exact vp_in_nI (by simp only [alen]; omega) (by decide)), ?_⟩
            try rw [nI_clamp (by omega)]
            refine hS _ _ _ _ ?_
            refine And.intro (fun h175 => ?_) (fun h175 => ?_)
            · rw [ei, eb] at h175
              have hnn : ¬ (amF (fun p => toldF f p c n) x).2 < toldF f (x + 1) c n := fun y => absurd h175 (nI_ge (by rw [e2] at y; exact y) (by omega))
              iterate 4 refine hS _ _ _ _ ?_
              rw [amF_s, if_neg hnn, nI_succ (x + 1)] at ih'
              exact ih'
            · rw [ei, eb] at h175
              have hnn : (amF (fun p => toldF f p c n) x).2 < toldF f (x + 1) c n := Nat.lt_of_not_le fun y => h175 (nI_le (by rw [e2] at y; exact y) (by omega))
              iterate 5 refine hS _ _ _ _ ?_
              rw [amF_s, if_pos hnn, nI_succ (x + 1)] at ih'
              exact ih'
    have mn : ∀ M', Fh M M' → M' 31 0 0 = f → (∀ i, i < 86 → M' 38 0 0 i = f i) → (∀ p, p < cP f → M' 39 0 0 p = 0) → S 68 [some (.inr (30, 0, 0)), some (.inl (nI j)), some (.inl w), some (.inl (nI (cP f))), some (.inl 0), none, none] [] M' := by
      intro M' a1 a2 a3 a4
      refine lp_up (T := fun k => ∀ o5 o6 M', Fh M M' → M' 31 0 0 = nightsF f k → (∀ i, i < 86 → M' 38 0 0 i = f i) → (∀ p, p < cP f → M' 39 0 0 p = nI (toldF f p c k)) → S 68 [some (.inr (30, 0, 0)), some (.inl (nI j)), some (.inl w), some (.inl (nI (cP f))), some (.inl (nI k)), o5, o6] [] M') (N := n) ?_ ?_ 0 (Nat.zero_le _) none none M' a1 a2 a3 a4
      · intro o5 o6 M' a1 a2 a3 a4
        have e59 : M' 59 0 0 j = nI n := by rw [a1 59 (by decide) (by decide) (by decide) (by decide) (by decide) (by decide)]; exact r4
        have kn := nights_kn hwf.1 n
        iterate 5 refine hS _ _ _ _ ?_
        refine ⟨(by first | assumption | exact vp_in_nI (by simp only [alen]; omega) (by decide)), ?_⟩
        try rw [nI_clamp (by omega)]
        refine hS _ _ _ _ ?_
        refine And.intro (fun h76 => ?_) (fun h76 => ?_)
        · iterate 2 refine hS _ _ _ _ ?_
          refine sm_putsBack (g := f) (by omega) a3 (fun i hi => by rw [a2]; exact kn.2.2.2.2 i hi) (fun M3 f3 e3 => ?_)
          iterate 4 refine hS _ _ _ _ ?_
          exact bs2 M3 (a1.tr (Fh.o f3)) e3 (fun p hp => by rw [f3 39 (by decide)]; exact a4 p hp) _
        · exact (lp_x e59 h76).elim
      · intro k hk ih o5 o6 M' a1 a2 a3 a4
        have e59 : M' 59 0 0 j = nI n := by rw [a1 59 (by decide) (by decide) (by decide) (by decide) (by decide) (by decide)]; exact r4
        have e60 : M' 60 0 0 (24 * j + k) = c k := by rw [a1 60 (by decide) (by decide) (by decide) (by decide) (by decide) (by decide)]; exact hcl k hk
        have wk := nights_wf hwf k
        have kn := nights_kn hwf.1 k
        have ix : (24 : Int32) * nI j + nI k = nI (24 * j + k) := by
          show nI 24 * nI j + nI k = _
          rw [nI_mul, nI_add]
        have inn : ∀ o6 : Option AV, S 96 [some (.inr (30, 0, 0)), some (.inl (nI j)), some (.inl w), some (.inl (nI (cP f))), some (.inl (nI k)), some (.inl (c k)), some (.inl 0)] [] M' := by
          intro o6
          refine lp_up (T := fun q => ∀ M', Fh M M' → M' 31 0 0 = nightsF f k → (∀ i, i < 86 → M' 38 0 0 i = f i) → (∀ p, p < cP f → M' 39 0 0 p = nI (toldF f p c (if p < q then k + 1 else k))) → S 96 [some (.inr (30, 0, 0)), some (.inl (nI j)), some (.inl w), some (.inl (nI (cP f))), some (.inl (nI k)), some (.inl (c k)), some (.inl (nI q))] [] M') (N := cP f) ?_ ?_ 0 (Nat.zero_le _) M' a1 a2 a3 (fun p hp => by rw [if_neg (by omega)]; exact a4 p hp)
          · intro M' a1 a2 a3 a4
            iterate 3 refine hS _ _ _ _ ?_
            refine And.intro (fun h99 => ?_) (fun h99 => ?_)
            · iterate 2 refine hS _ _ _ _ ?_
              refine sm_night (K := 10000 + k) (by omega) (by rw [a2]; exact wk.1) (by omega) (fun M3 f3 e3 => ?_)
              iterate 2 refine hS _ _ _ _ ?_
              rw [nI_succ k] at ih
              exact ih _ _ M3 (a1.tr (Fh.m f3)) (by rw [e3, a2]; rfl) (fun i hi => by rw [f3 38 (by decide) (by decide) (by decide) (by decide)]; exact a3 i hi) (fun p hp => by rw [f3 39 (by decide) (by decide) (by decide) (by decide)]; have := a4 p hp; rw [if_pos hp] at this; exact this)
            · exact (lp_x rfl h99).elim
          · intro q hq ihq M' a1 a2 a3 a4
            have e39 := a4 q hq
            rw [if_neg (by omega)] at e39
            have es : toldF f q c (k + 1) = toldF f q c k + (if c k = nightsF f k (50 + 4 * q) then 1 else 0) := rfl
            have go : ∀ v, v = nI (toldF f q c (k + 1)) → S 96 [some (.inr (30, 0, 0)), some (.inl (nI j)), some (.inl w), some (.inl (nI (cP f))), some (.inl (nI k)), some (.inl (c k)), some (.inl (nI q + 1))] [] (mu M' 39 0 0 q v) := by
              intro v hv
              have := ihq (mu M' 39 0 0 q v) (a1.tr (fun k _ _ _ x _ _ => mz_k x)) a2 a3 (fun p hp => by
                by_cases z : p = q
                · subst z; rw [mz_at, if_pos (by omega)]; exact hv
                · rw [upd_mu, upd_ne z, a4 p hp]
                  by_cases y : p < q
                  · rw [if_pos y, if_pos (by omega)]
                  · rw [if_neg y, if_neg (by omega)])
              rw [nI_succ] at this
              exact this
            iterate 3 refine hS _ _ _ _ ?_
            refine And.intro (fun h99 => ?_) (fun h99 => ?_)
            · exact (lp_s rfl hq (by omega) h99).elim
            · iterate 5 refine hS _ _ _ _ ?_
              refine ⟨(by first | assumption | exact vp_in_nI (by simp only [alen]; omega) (by decide)), ?_⟩
              try rw [nI_clamp (by omega)]
              iterate 5 refine hS _ _ _ _ ?_
              refine sm_by0 (by omega) (by omega) ?_
              refine hS _ _ _ _ ?_
              refine And.intro (fun h119 => ?_) (fun h119 => ?_)
              · rw [a2] at h119
                iterate 3 refine hS _ _ _ _ ?_
                refine ⟨(by first | assumption | exact vp_in_nI (by simp only [alen]; omega) (by decide)), ?_⟩
                try rw [nI_clamp (by omega)]
                iterate 2 refine hS _ _ _ _ ?_
                refine go _ ?_
                rw [es, if_neg h119, e39]; exact Int32.add_zero _
              · rw [a2] at h119
                iterate 4 refine hS _ _ _ _ ?_
                refine ⟨(by first | assumption | exact vp_in_nI (by simp only [alen]; omega) (by decide)), ?_⟩
                try rw [nI_clamp (by omega)]
                iterate 2 refine hS _ _ _ _ ?_
                refine go _ ?_
                rw [es, if_pos h119, e39, nI_succ]
        iterate 5 refine hS _ _ _ _ ?_
        refine ⟨(by first | assumption | exact vp_in_nI (by simp only [alen]; omega) (by decide)), ?_⟩
        try rw [nI_clamp (by omega)]
        refine hS _ _ _ _ ?_
        refine And.intro (fun h76 => ?_) (fun h76 => ?_)
        · exact (lp_s e59 hk (by omega) h76).elim
        · iterate 8 refine hS _ _ _ _ ?_
          rw [ix]
          refine ⟨(by first | assumption | exact vp_in_nI (by simp only [alen]; omega) (by decide)), ?_⟩
          rw [nI_clamp (by omega), e60]
          iterate 3 refine hS _ _ _ _ ?_
          exact inn none
    refine lp_up (T := fun i => ∀ M', Fh M M' → M' 31 0 0 = f → (∀ i, i < 86 → M' 38 0 0 i = f i) → (∀ p, p < i → M' 39 0 0 p = 0) → S 45 [some (.inr (30, 0, 0)), some (.inl (nI j)), some (.inl w), some (.inl (nI (cP f))), some (.inl (nI i)), none, none] [] M') (N := cP f) ?_ ?_ 0 (Nat.zero_le _) M1 a1 a2 a3 (fun p hp => absurd hp (Nat.not_lt_zero _))
    · intro M' a1 a2 a3 a4
      iterate 3 refine hS _ _ _ _ ?_
      refine And.intro (fun h48 => ?_) (fun h48 => ?_)
      · iterate 2 refine hS _ _ _ _ ?_
        exact mn M' a1 a2 a3 a4
      · exact (lp_x rfl h48).elim
    · intro i hi ih M' a1 a2 a3 a4
      iterate 3 refine hS _ _ _ _ ?_
      refine And.intro (fun h48 => ?_) (fun h48 => ?_)
      · exact (lp_s rfl hi (by omega) h48).elim
      · iterate 5 refine hS _ _ _ _ ?_
        refine ⟨(by first | assumption | exact vp_in_nI (by simp only [alen]; omega) (by decide)), ?_⟩
        try rw [nI_clamp (by omega)]
        iterate 2 refine hS _ _ _ _ ?_
        have := ih (mu M' 39 0 0 i 0) (a1.tr (fun k _ _ _ x _ _ => mz_k x)) a2 a3 (fun p hp => by
          by_cases z : p = i
          · subst z; rw [mz_at]
          · rw [upd_mu, upd_ne z]; exact a4 p (by omega))
        rw [nI_succ] at this
        exact this
  obtain ⟨e, rfl⟩ : ∃ e, d = e + 1 := ⟨d - 1, by omega⟩
  refine td_X10_whose ?_
  intro S hS
  iterate 2 refine hS _ _ _ _ ?_
  refine sm_isSheet (by omega) ?_
  refine hS _ _ _ _ ?_
  refine And.intro (fun h4 => ?_) (fun h4 => ?_)
  · replace h4 := bI_f h4
    iterate 2 refine hS _ _ _ _ ?_
    rw [whoseV, iteC_f (fun z => h4 z.1)] at hV
    exact qv (hQ _ FrS.rf) hV.symm
  · replace h4 := bI_t h4
    iterate 4 refine hS _ _ _ _ ?_
    refine sm_in (by omega) ?_
    refine hS _ _ _ _ ?_
    refine And.intro (fun h13 => ?_) (fun h13 => ?_)
    · replace h13 := bI_t h13
      replace h13 := (in_bd1 (n := 1) (by omega)).mp h13
      rw [whoseV, iteC_t ⟨h4, h13⟩] at hV
      obtain ⟨j, hj, rfl⟩ := h4
      rw [nI_clamp (by omega)] at hV
      obtain ⟨r1, r2, r3, ⟨n, hn, r4⟩, r5⟩ := hI.2.2.1 j hj
      rw [r2, r4, nI_clamp (by omega)] at hV
      iterate 4 refine hS _ _ _ _ ?_
      refine ⟨(by first | assumption | exact vp_in_nI (by simp only [alen]; omega) (by decide)), ?_⟩
      try rw [nI_clamp (by omega)]
      refine hS _ _ _ _ ?_
      refine And.intro (fun h25 => ?_) (fun h25 => ?_)
      · rw [if_neg (Int32.not_lt.mpr h25)] at hV
        iterate 2 refine hS _ _ _ _ ?_
        refine sm_thinks (by omega) (fun M1 f1 e1 => ?_)
        have e31 : M1 31 = M 31 := f1 31 (by decide)
        iterate 4 refine hS _ _ _ _ ?_
        refine ⟨vp_l rfl, ?_⟩
        rw [show M1 31 0 0 (Int32.toNatClampNeg 4) = nI (cP (M 31 0 0)) by rw [e31]; exact hC.2.2.1]
        iterate 3 refine hS _ _ _ _ ?_
        exact mlp j n (by omega) (by omega) (r2.trans r4) W hV Q hQ _ hS (by omega) M1 (Fh.t f1) (by rw [e31]) e1
      · rw [if_pos (nle_lt h25)] at hV
        iterate 2 refine hS _ _ _ _ ?_
        exact qv (hQ _ FrS.rf) hV.symm
    · replace h13 := bI_f h13
      replace h13 := fun z => h13 ((in_bd1 (n := 1) (by omega)).mpr z)
      iterate 2 refine hS _ _ _ _ ?_
      rw [whoseV, iteC_f (fun z => h13 z.2)] at hV
      exact qv (hQ _ FrS.rf) hV.symm
theorem op_whose {s w : Int32} : OpOK 89 179 [.inl s, .inl w] := op_q (fun M => whoseV M s w) (fun M Q d hd hI hQ => c_whose hd hI hQ) (fun M Q d hd hI hQ => m_whose hd hI hQ) (fun M M' h => by have e : cellsF M' = cellsF M := (by funext a b; unfold cellsF; rw [h.q (k := 60) (by omega)]); simp only [whoseV, wh1, h.k31, h.q (k := 58) (by omega), h.q (k := 59) (by omega), e])
