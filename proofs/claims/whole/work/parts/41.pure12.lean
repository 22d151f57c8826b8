-- 41.pure12: the class's night: lying down
section W12
variable {d l b p K : Nat} {M : Mem} {Q : PQ} {f : FA}
theorem clamp_t {x : Int32} (h : isBd 10 x) : (if x + 1 < 9 then x + 1 else 9) = clamp (x + 1) 0 9 := by
  obtain ⟨j, hj, rfl⟩ := h
  revert j
  decide +kernel
/-- folk of the flat row in range -/
def FK (f : FA) : Prop := ∀ p, p < cP f → isBd 10 (f (52 + 4 * p)) ∧ isBd 2 (f (53 + 4 * p))
theorem clamp_bd (x : Int32) : isBd 10 (clamp x 0 9) := by
  unfold clamp
  by_cases h : x < 0
  · rw [if_pos h]; exact ⟨0, by omega, rfl⟩
  · rw [if_neg h]
    by_cases h2 : 9 < x
    · rw [if_pos h2]; exact ⟨9, by omega, rfl⟩
    · rw [if_neg h2]
      refine isBd_in h (fun z => h2 (Int32.lt_of_lt_of_le (by decide) z)) (by decide)
theorem lie_fk {f : FA} {g : Nat → Nat} {p : Nat} (hp : p < 9) (h : FK f) : FK (lieF (f, g) p).1 := by
  intro q hq
  rw [(lie_kp hp).cp] at hq
  obtain ⟨a, b⟩ := h q hq
  unfold lieF
  split
  · split
    · show isBd 10 (upd _ _ _ _) ∧ isBd 2 (upd _ _ _ _)
      rw [upd_ne (show 53 + 4 * q ≠ 52 + 4 * p by omega), upd_ne (show 53 + 4 * q ≠ 6 by omega)]
      refine ⟨?_, b⟩
      by_cases z : q = p
      · subst z
        rw [upd_at]
        exact clamp_bd _
      · rw [upd_ne (by omega), upd_ne (by omega)]
        exact a
    · exact ⟨a, b⟩
  · exact ⟨a, b⟩
theorem lies_fk (h : FK f) : ∀ n, n ≤ 9 → FK (liesF f n).1 := by
  intro n
  induction n with
  | zero => intro _; exact h
  | succ n ih => intro hn; exact lie_fk (f := (liesF f n).1) (g := (liesF f n).2) (by omega) (ih (by omega))
/-- how many lie in each bed, and who lies where, of the first n -/
def LY (M : Mem) (l : Nat) (f : FA) (g : Nat → Nat) : Prop := ∀ b, b < cB f → M 3 l b 4 = nI (pcnt 9 (g b))
def LI (M : Mem) (l : Nat) (f : FA) (g : Nat → Nat) (n : Nat) : Prop := ∀ p, p < n → ∀ b, b < cB f → (M 5 l p 4 = nI b ↔ (g b).testBit p = true)
theorem w_keep {M0 : Mem} {l i q : Nat} {x y : Int32} : mu (mu M0 1 l 0 7 x) 5 l i 2 y 5 l q 4 = M0 5 l q 4 := by
  by_cases z : q = i
  · subst z; rw [mz_sl (by decide)]; rfl
  · rw [mz_ne (fun w => z w.2.2)]; rfl
theorem hoursF_nn {f : FA} {p : Nat} : hoursF f p = 0 ∨ 0 < hoursF f p := by
  unfold hoursF
  split
  · exact Or.inr (by decide)
  · obtain ⟨j, hj, e⟩ := clamp_bd (worthT f (countsF f 0 (cT f)).toNatClampNeg (f (52 + 4 * p)) (f 2) (thereF f (f (50 + 4 * p)) (cP f)))
    rw [e]
    rcases Nat.eq_zero_or_pos j with z | z
    · rw [z]; exact Or.inl rfl
    · exact Or.inr (nI_lt (a := 0) z (by omega))
theorem sp_lieDown (hd : 4 ≤ d) (hL : LL M l f) (hT : TX M f) (hK : FK f)
    (hQ : ∀ M', Fn l M M' → LL M' l (liesF f (cP f)).1 → LY M' l f (liesF f (cP f)).2 → LI M' l f (liesF f (cP f)).2 (cP f) → Q none M') : Td PR d 20 [.inr (1, l, 0)] M Q := by
  have hp9 := hL.p9
  have hb10 := hL.b10
  have kp := fun n hn => lies_kp (f := f) n hn
  obtain ⟨e, rfl⟩ : ∃ e, d = e + 1 := ⟨d - 1, by omega⟩
  refine td_X1_lieDown ?_
  intro S hS
  have lis : ∀ M', Fn l M M' → LL M' l f → (∀ b, b < cB f → M' 3 l b 4 = 0) → S 34 [some (.inr (1, l, 0)), some (.inl (countsF f 0 (cT f))), some (.inl 0), none] [] M' := by
    intro M' hF hL' h0
    refine lp_up (T := fun i => ∀ (o : Option AV) M2, Fn l M' M2 → LL M2 l (liesF f i).1 → LY M2 l f (liesF f i).2 → LI M2 l f (liesF f i).2 i → S 34 [some (.inr (1, l, 0)), some (.inl (countsF f 0 (cT f))), some (.inl (nI i)), o] [] M2) (N := cP f) ?_ ?_ 0 (Nat.zero_le _) none M' Fn.rf hL' (fun b hb => (h0 b hb).trans (show (0 : Int32) = nI (pcnt 9 0) by decide)) (fun p hp => absurd hp (Nat.not_lt_zero _))
    · intro o M2 a1 a2 a3 a4
      have e4 : M2 1 l 0 4 = nI (cP f) := by rw [a2.pc, (kp _ hp9).cp]
      iterate 4 refine hS _ _ _ _ ?_
      refine And.intro (fun h39 => ?_) (fun h39 => ?_)
      · refine hS _ _ _ _ ?_
        exact hQ M2 (hF.tr a1) a2 a3 a4
      · exact (lp_x e4 h39).elim
    · intro i hi ih o M2 a1 a2 a3 a4
      have ki := kp i (by omega)
      have e4 : M2 1 l 0 4 = nI (cP f) := by rw [a2.pc, ki.cp]
      have hip : i < cP (liesF f i).1 := by rw [ki.cp]; exact hi
      have es : liesF f (i + 1) = lieF (liesF f i) i := rfl
      have hfk := (lies_fk hK i (by omega) i hip).1
      have hbit : ∀ b, ¬ ((liesF f i).2 b).testBit i = true := fun b z => by
        have := (lies_bit i (by omega) z).1
        omega
      have hg := lies_g (f := f) i (by omega)
      have hct : countsF f 0 (cT f) = countsF (liesF f i).1 0 (cT (liesF f i).1) := by rw [ki.ct, ki.2.2.2.2.ct]
      generalize hs : liesF f i = s at *
      have go : ∀ M3 (o' : Option AV), Fn l M2 M3 → LL M3 l (lieF s i).1 → LY M3 l f (lieF s i).2 → LI M3 l f (lieF s i).2 (i + 1) → S 34 [some (.inr (1, l, 0)), some (.inl (countsF f 0 (cT f))), some (.inl (nI i + 1)), o'] [] M3 := by
        intro M3 o' c1 c2 c3 c4
        have := ih o' M3 (a1.tr c1) (by rw [es]; exact c2) (by rw [es]; exact c3) (by rw [es]; exact c4)
        rw [nI_succ] at this
        exact this
      -- the first write: it lies nowhere yet
      generalize hM3 : mu M2 5 l i 4 (-1) = M3
      have b1 : Fn l M2 M3 := by rw [← hM3]; exact Fn.mu1 (by omega)
      have b2 : LL M3 l s.1 := by rw [← hM3]; exact a2.li
      have b3 : LY M3 l f s.2 := by rw [← hM3]; exact a3
      have b4 : M3 5 l i 4 = -1 := by rw [← hM3]; exact mz_at
      have b5 : LI M3 l f s.2 i := fun q hq c hc => by rw [← hM3, mz_ne (fun z => by omega)]; exact a4 q hq c hc
      have b6 : ∀ c, c < cB f → ¬ M3 5 l i 4 = nI c := fun c hc z => by
        rw [b4] at z
        exact nI_pos (n := c) (by omega) (by rw [← z]; decide)
      have b7 : LI M3 l f s.2 (i + 1) := fun q hq c hc => by
        by_cases z : q = i
        · subst z
          exact ⟨fun y => absurd y (b6 c hc), fun y => absurd y (hbit c)⟩
        · exact b5 q (by omega) c hc
      have e53 : M3 5 l i 3 = s.1 (53 + 4 * i) := b2.gone hip
      have hTs : TX M3 s.1 := (((hF.tr a1).tr b1).tx hT).cg ki.2.2.2.2 rfl rfl
      have j83 : ∀ M4, (∀ k, k ≠ 8 → M4 k = M3 k) → s.1 (53 + 4 * i) = 0 → S 83 [some (.inr (1, l, 0)), some (.inl (countsF f 0 (cT f))), some (.inl (nI i)), some (.inr (5, l, i))] [.inl (bedF s.1 s.2 i), .inr (5, l, i)] M4 := by
        intro M4 c0 h53
        have c1 : Fn l M3 M4 := Fn.of8 c0
        have c2 : LL M4 l s.1 := b2.f8 c0
        have c3 : LY M4 l f s.2 := fun c hc => by rw [c0 3 (by decide)]; exact b3 c hc
        have c5 : LI M4 l f s.2 i := fun q hq c hc => by rw [c0 5 (by decide)]; exact b5 q hq c hc
        generalize hv : bedF s.1 s.2 i = v
        generalize hM5 : mu M4 5 l i 4 v = M5
        have d1 : Fn l M2 M5 := by rw [← hM5]; exact (b1.tr c1).tr (Fn.mu1 (by omega))
        have d2 : LL M5 l s.1 := by rw [← hM5]; exact c2.li
        have d3 : LY M5 l f s.2 := by rw [← hM5]; exact c3
        have d4 : M5 5 l i 4 = v := by rw [← hM5]; exact mz_at
        have d5 : LI M5 l f s.2 i := fun q hq c hc => by rw [← hM5, mz_ne (fun z => by omega)]; exact c5 q hq c hc
        iterate 2 refine hS _ _ _ _ ?_
        rw [hM5]
        iterate 2 refine hS _ _ _ _ ?_
        refine And.intro (fun h90 => ?_) (fun h90 => ?_)
        · have h90' : 0 ≤ v := by rw [← d4]; exact h90
          rcases bedF_c (f := s.1) (g := s.2) (p := i) with z | ⟨b, hb, z⟩
          · exact absurd h90' (by rw [← hv, z]; decide)
          rw [hv] at z
          rw [ki.cb] at hb
          have el : lieF s i = (s.1, updN s.2 b (s.2 b ||| 2 ^ i)) := by
            unfold lieF
            rw [if_pos h53, hv, if_neg (Int32.not_lt.mpr h90'), z, nI_clamp (by omega)]
          iterate 5 refine hS _ _ _ _ ?_
          rw [show gfv M5 5 l i 4 = .inl (nI b) from congrArg Sum.inl (d4.trans z)]
          refine ⟨(by first | assumption | exact vp_in_nI (by simp only [alen]; omega) (by decide)), ?_⟩
          try rw [nI_clamp (by omega)]
          iterate 7 refine hS _ _ _ _ ?_
          refine go _ _ (d1.tr (Fn.mu1 (by omega))) ?_ ?_ ?_
          · rw [el]; exact d2.ly
          · intro c hc
            rw [el]
            show _ = nI (pcnt 9 (updN s.2 b (s.2 b ||| 2 ^ i) c))
            unfold updN
            by_cases y : c = b
            · subst y
              rw [mz_at, if_pos rfl, pcnt_or (hbit c) 9, if_pos (show i < 9 by omega), nI_succ]
              exact congrArg (· + 1) (d3 c hc)
            · rw [mz_ne (fun z => y z.2.2), if_neg y]
              exact d3 c hc
          · intro q hq c hc
            rw [el]
            show M5 5 l q 4 = nI c ↔ (updN s.2 b (s.2 b ||| 2 ^ i) c).testBit q = true
            unfold updN
            by_cases x : q = i
            · subst x
              rw [d4, z]
              by_cases y : c = b
              · subst y
                rw [if_pos rfl, Nat.testBit_or, Nat.testBit_two_pow]
                simp
              · rw [if_neg y]
                refine ⟨fun w => absurd ((nI_eq (by omega) (by omega)).mp w).symm y, fun w => absurd w (hbit c)⟩
            · rw [d5 q (by omega) c hc]
              by_cases y : c = b
              · subst y
                rw [if_pos rfl, Nat.testBit_or, Nat.testBit_two_pow, decide_eq_false (fun w => x w.symm), Bool.or_false]
              · rw [if_neg y]
        · have h90' : v < 0 := by rw [← d4]; exact nle_lt h90
          have el : lieF s i = (upd (upd s.1 6 (s.1 6 + 1)) (52 + 4 * i) (clamp (s.1 (52 + 4 * i) + 1) 0 9), s.2) := by
            unfold lieF
            rw [if_pos h53, hv, if_pos h90']
          rcases bedF_c (f := s.1) (g := s.2) (p := i) with z | ⟨b, hb, z⟩
          case inr => exact absurd h90' (by rw [← hv, z]; exact nI_pos (by rw [ki.cb] at hb; omega))
          iterate 13 refine hS _ _ _ _ ?_
          iterate 4 refine hS _ _ _ _ ?_
          refine go _ _ ((d1.tr (Fn.mu1 (by omega))).tr (Fn.mu1 (by omega))) ?_ ?_ ?_
          · rw [el]
            have w1 := d2.w7 (v := s.1 6 + 1)
            have w2 := w1.p2 (c := i) (v := clamp (s.1 (52 + 4 * i) + 1) 0 9) (by rw [(KP.up (by omega)).cp]; exact hip)
            rw [← clamp_t hfk, ← d2.tired hip, ← d2.awake] at w2
            rw [← clamp_t hfk, ← d2.tired hip, ← d2.awake]
            exact w2
          · rw [el]; exact d3
          · rw [el]
            intro q hq c hc
            rw [w_keep]
            by_cases x : q = i
            · subst x
              rw [d4]
              refine ⟨fun w => absurd h90' (by rw [w]; exact nI_pos (by omega)), fun w => absurd w (hbit c)⟩
            · exact d5 q (by omega) c hc
      iterate 4 refine hS _ _ _ _ ?_
      refine And.intro (fun h39 => ?_) (fun h39 => ?_)
      · exact (lp_s e4 hi (by omega) h39).elim
      · iterate 4 refine hS _ _ _ _ ?_
        refine ⟨(by first | assumption | exact vp_in_nI (by simp only [alen]; omega) (by decide)), ?_⟩
        try rw [nI_clamp (by omega)]
        iterate 5 refine hS _ _ _ _ ?_
        rw [hM3]
        iterate 2 refine hS _ _ _ _ ?_
        refine And.intro (fun h58 => ?_) (fun h58 => ?_)
        · rw [e53] at h58
          have el : lieF s i = s := by unfold lieF; exact if_neg h58
          iterate 2 refine hS _ _ _ _ ?_
          exact go M3 _ b1 (by rw [el]; exact b2) (by rw [el]; exact b3) (by rw [el]; exact b7)
        · rw [e53] at h58
          iterate 5 refine hS _ _ _ _ ?_
          rw [hct]
          refine sp_hours (by omega) b2 hTs hip (fun M4 c0 => ?_)
          rw [← hct]
          refine hS _ _ _ _ ?_
          refine And.intro (fun h68 => ?_) (fun h68 => ?_)
          · have hz : hoursF s.1 i = 0 := hoursF_nn.resolve_right (Int32.not_lt.mpr h68)
            refine hS _ _ _ _ ?_
            have := j83 M4 c0 h58
            rw [show bedF s.1 s.2 i = -1 by unfold bedF; exact if_pos hz] at this
            exact this
          · have hz : ¬ hoursF s.1 i = 0 := fun z => h68 (by rw [z]; exact Int32.le_refl _)
            iterate 4 refine hS _ _ _ _ ?_
            rw [show gfv M4 5 l i 0 = .inl (s.1 (50 + 4 * i)) from congrArg Sum.inl ((b2.f8 c0).town hip)]
            refine sp_freeBedAt (g := s.2) (by omega) (b2.f8 c0) (fun c hc => by rw [ki.cb] at hc; rw [c0 3 (by decide)]; exact b3 c hc) ?_
            refine hS _ _ _ _ ?_
            have := j83 M4 c0 h58
            rw [show bedF s.1 s.2 i = freeF s.1 s.2 (s.1 (50 + 4 * i)) 0 (cB s.1) by unfold bedF; exact if_neg hz] at this
            exact this
  iterate 2 refine hS _ _ _ _ ?_
  refine lp_up (T := fun i => ∀ M', Fn l M M' → LL M' l f → (∀ b, b < i → M' 3 l b 4 = 0) → S 2 [some (.inr (1, l, 0)), some (.inl (nI i)), none, none] [] M') (N := cB f) ?_ ?_ 0 (Nat.zero_le _) M Fn.rf hL (fun b hb => absurd hb (Nat.not_lt_zero _))
  · intro M' a1 a2 a3
    iterate 4 refine hS _ _ _ _ ?_
    refine And.intro (fun h7 => ?_) (fun h7 => ?_)
    · iterate 3 refine hS _ _ _ _ ?_
      refine sp_lawOf (by omega) a2 (a1.tx hT) ?_
      iterate 3 refine hS _ _ _ _ ?_
      exact lis M' a1 a2 a3
    · exact (lp_x a2.bc h7).elim
  · intro i hi ih M' a1 a2 a3
    iterate 4 refine hS _ _ _ _ ?_
    refine And.intro (fun h7 => ?_) (fun h7 => ?_)
    · exact (lp_s a2.bc hi (by omega) h7).elim
    · iterate 4 refine hS _ _ _ _ ?_
      refine ⟨(by first | assumption | exact vp_in_nI (by simp only [alen]; omega) (by decide)), ?_⟩
      try rw [nI_clamp (by omega)]
      iterate 4 refine hS _ _ _ _ ?_
      have := ih (mu M' 3 l i 4 0) (a1.tr (Fn.mu1 (by omega))) a2.ly (fun b hb => by
        by_cases z : b = i
        · rw [z]; exact mz_at
        · rw [mz_ne (fun y => z y.2.2)]; exact a3 b (by omega))
      rw [nI_succ] at this
      exact this
end W12
