-- 43.pure14: the class's night, whole
section W14
variable {d l b p K : Nat} {M : Mem} {Q : PQ} {f : FA}
theorem wakeB_k {g : Nat → Nat} {f : FA} {b : Nat} (hlow : ∀ q, (g b).testBit q = true → q < cP f) (hp : cP f ≤ 9) : wakeB g f b = (if 0 < nI (pcnt 9 (g b)) ∧ f (10 + 4 * b) = 3 then upd (upd (wkF (g b) (takesF f b (nI (pcnt 9 (g b)))) (if f (10 + 4 * b) = 5 then 1 else 0) f (cP f)) (11 + 4 * b) (f (12 + 4 * b))) (12 + 4 * b) (f (11 + 4 * b)) else wkF (g b) (takesF f b (nI (pcnt 9 (g b)))) (if f (10 + 4 * b) = 5 then 1 else 0) f (cP f)) := by
  have e : pcnt 9 (g b) = pcnt (cP f) (g b) := by
    have := pcnt_top (m := g b) (n := cP f) (fun q hq z => by have := hlow q z; omega) (9 - cP f)
    rw [show cP f + (9 - cP f) = 9 by omega] at this
    exact this
  have e5 : ∀ w gn, wakeP (g b) w gn f (cP f) 5 = f 5 := fun w gn => wakeP_lo (by omega) _ hp
  have e7 : ∀ w gn x, upd (wakeP (g b) w gn f (cP f)) 5 x 7 = f 7 := fun w gn x => (upd_ne (by decide)).trans (wakeP_lo (by omega) _ hp)
  have eif : (if (if f (10 + 4 * b) = 5 then (1 : Int32) else 0) = 1 then nI (pcnt (cP f) (g b)) else 0) = if f (10 + 4 * b) = 5 then nI (pcnt (cP f) (g b)) else 0 := by
    by_cases z : f (10 + 4 * b) = 5
    · simp only [if_pos z]; rfl
    · simp only [if_neg z]; rfl
  unfold wakeB wkF
  rw [e]
  dsimp only
  rw [e5, e7, eif]
theorem sp_wake {g : Nat → Nat} (hd : 2 ≤ d) (hL : LL M l f) (hg : ∀ b, g b < 512) (hY : LY M l f g) (hI : LI M l f g (cP f)) (hlow : ∀ b q, (g b).testBit q = true → q < cP f) (h0 : ∀ b q, (g b).testBit q = true → f (53 + 4 * q) = 0)
    (hQ : ∀ M', Fn l M M' → LL M' l (wakeF g f (cB f)) → Q none M') : Td PR d 22 [.inr (1, l, 0)] M Q := by
  have hp9 := hL.p9
  have hb10 := hL.b10
  have kk := fun n hn => wakeF_kp (g := g) hp9 n hn
  obtain ⟨e, rfl⟩ : ∃ e, d = e + 1 := ⟨d - 1, by omega⟩
  refine td_X1_wake ?_
  intro S hS
  iterate 2 refine hS _ _ _ _ ?_
  refine lp_up (T := fun i => ∀ (o : Option AV) M', Fn l M M' → LL M' l (wakeF g f i) → LY M' l f g → LI M' l f g (cP f) → (∀ b, i ≤ b → b < cB f → ∀ q, (g b).testBit q = true → wakeF g f i (53 + 4 * q) = 0) → S 2 [some (.inr (1, l, 0)), some (.inl (nI i)), o] [] M') (N := cB f) ?_ ?_ 0 (Nat.zero_le _) none M Fn.rf hL hY hI (fun b _ _ q hq => h0 b q hq)
  · intro o M' a1 a2 a3 a4 a5
    have e2 : M' 1 l 0 2 = nI (cB f) := by rw [a2.bc, (kk _ hb10).cb]
    iterate 4 refine hS _ _ _ _ ?_
    refine And.intro (fun h7 => ?_) (fun h7 => ?_)
    · refine hS _ _ _ _ ?_
      exact hQ M' a1 a2
    · exact (lp_x e2 h7).elim
  · intro i hi ih o M' a1 a2 a3 a4 a5
    have ki := kk i (by omega)
    have e2 : M' 1 l 0 2 = nI (cB f) := by rw [a2.bc, ki.cb]
    have hib : i < cB (wakeF g f i) := by rw [ki.cb]; exact hi
    have es : wakeF g f (i + 1) = wakeB g (wakeF g f i) i := rfl
    have ey := a3 i hi
    have hkd := a2.kind hib
    have hpc := pcnt_le 9 (g i)
    generalize hs : wakeF g f i = s at *
    have hps : cP s ≤ 9 := by rw [ki.cp]; exact hp9
    have hk := wakeB_k (g := g) (f := s) (b := i) (fun q z => by rw [ki.cp]; exact hlow i q z) hps
    have a6 : ∀ b, i + 1 ≤ b → b < cB f → ∀ q, (g b).testBit q = true → wakeB g s i (53 + 4 * q) = 0 := by
      intro b c1 c2 q c3
      have hq := hlow b q c3
      have hn : ¬ (g i).testBit q = true := fun z => by
        have x1 := (a4 q hq i hi).mpr z
        have x2 := (a4 q hq b c2).mpr c3
        have := (nI_eq (by omega) (by omega)).mp (x1.symm.trans x2)
        omega
      rw [wakeB_53 (by omega) hn]
      exact a5 b (by omega) c2 q c3
    have go : ∀ M2 (o' : Option AV), Fn l M' M2 → LL M2 l (wakeB g s i) → (∀ b, b < cB f → M2 3 l b 4 = M' 3 l b 4) → (∀ q, M2 5 l q 4 = M' 5 l q 4) → S 2 [some (.inr (1, l, 0)), some (.inl (nI i + 1)), o'] [] M2 := by
      intro M2 o' c1 c2 c3 c4
      have := ih o' M2 (a1.tr c1) (by rw [es]; exact c2) (fun b hb => by rw [c3 b hb]; exact a3 b hb) (fun q hq b hb => by rw [c4 q]; exact a4 q hq b hb) (by rw [es]; exact a6)
      rw [nI_succ] at this
      exact this
    have wk : ∀ gn, gn = (if s (10 + 4 * i) = 5 then (1 : Int32) else 0) → 0 < nI (pcnt 9 (g i)) → S 51 [some (.inr (1, l, 0)), some (.inl (nI i)), some (.inr (3, l, i))] [.inl gn, .inl (takesF s i (nI (pcnt 9 (g i)))), .inl (nI i), .inr (1, l, 0)] M' := by
      intro gn hgn hpos
      rw [← hgn] at hk
      refine hS _ _ _ _ ?_
      refine sp_wakeThoseIn (g := g) (by omega) hib a2 (by rw [ki.cp]; exact fun q hq b hb => a4 q hq b (by rw [← ki.cb]; exact hb)) (a5 i (Nat.le_refl _) hi) (by rw [hgn]; split <;> simp) (fun M2 b1 b2 b3 => ?_)
      have f1 : Fn l M' M2 := fun k i' x y => b1 k i' (fun z => y ⟨Or.inl z.1, z.2⟩) (fun z => y ⟨Or.inr (Or.inr z.1), z.2⟩)
      have e3 : M2 3 l = M' 3 l := b1 3 l (by decide |> fun h => fun z => absurd z.1 h) (fun z => absurd z.1 (by decide))
      iterate 4 refine hS _ _ _ _ ?_
      refine And.intro (fun h59 => ?_) (fun h59 => ?_)
      · rw [e3, hkd] at h59
        rw [if_neg (fun z => h59 z.2)] at hk
        iterate 2 refine hS _ _ _ _ ?_
        exact go M2 _ f1 (by rw [hk]; exact b3) (fun b _ => by rw [e3]) b2
      · rw [e3, hkd] at h59
        rw [if_pos ⟨hpos, h59⟩] at hk
        iterate 2 refine hS _ _ _ _ ?_
        refine sp_swings (by omega) ?_
        iterate 2 refine hS _ _ _ _ ?_
        refine go _ _ (f1.tr ((Fn.mu1 (by omega)).tr (Fn.mu1 (by omega)))) ?_ (fun b hb => ?_) b2
        · rw [hk, ← a2.to hib, ← a2.at hib, ← e3]
          have hw : i < cB (wkF (g i) (takesF s i (nI (pcnt 9 (g i)))) gn s (cP s)) := by
            rw [show cB (wkF (g i) (takesF s i (nI (pcnt 9 (g i)))) gn s (cP s)) = cB s from (((wakeP_kp hps).tr (KP.up (by omega))).tr (KP.up (by omega))).cb]
            exact hib
          exact (b3.b1 hw).b2 (by rw [(KP.up (by omega)).cb]; exact hw)
        · rw [← e3]
          by_cases z : b = i
          · subst z; rw [mz_sl (by decide), mz_sl (by decide)]
          · rw [mz_ne (fun y => z y.2.2), mz_ne (fun y => z y.2.2)]
    iterate 4 refine hS _ _ _ _ ?_
    refine And.intro (fun h7 => ?_) (fun h7 => ?_)
    · exact (lp_s e2 hi (by omega) h7).elim
    · iterate 4 refine hS _ _ _ _ ?_
      refine ⟨(by first | assumption | exact vp_in_nI (by simp only [alen]; omega) (by decide)), ?_⟩
      try rw [nI_clamp (by omega)]
      iterate 4 refine hS _ _ _ _ ?_
      refine And.intro (fun h21 => ?_) (fun h21 => ?_)
      · rw [ey] at h21
        have hz : pcnt 9 (g i) = 0 := by
          refine Nat.eq_zero_of_not_pos fun z => nI_nle z (by omega) h21
        iterate 2 refine hS _ _ _ _ ?_
        exact go M' _ Fn.rf (by rw [wakeB_0 hps hz]; exact a2) (fun _ _ => rfl) (fun _ => rfl)
      · rw [ey] at h21
        iterate 8 refine hS _ _ _ _ ?_
        refine sp_takes (by omega) ?_
        have et : takesI (M' 3 l i 0) (M' 3 l i 1) (M' 3 l i 2) (M' 3 l i 3) (M' 3 l i 4) (M' 1 l 0 10) = takesF s i (nI (pcnt 9 (g i))) := by
          unfold takesF
          rw [hkd, a2.at hib, a2.to hib, a2.other hib, ey, a2.night]
        rw [et]
        iterate 4 refine hS _ _ _ _ ?_
        refine And.intro (fun h43 => ?_) (fun h43 => ?_)
        · rw [hkd] at h43
          refine hS _ _ _ _ ?_
          exact wk 0 (if_neg h43).symm (nle_lt h21)
        · rw [hkd] at h43
          iterate 2 refine hS _ _ _ _ ?_
          exact wk 1 (if_pos h43).symm (nle_lt h21)
theorem sp_carryOne (hd : 2 ≤ d) (hL : LL M l f) (hQ : ∀ M', Fn l M M' → LL M' l (carryF f) → Q none M') : Td PR d 24 [.inr (1, l, 0)] M Q := by
  have cV := hL.1
  have hb10 := hL.b10
  generalize hW : carryF f = W at hQ
  unfold carryF at hW
  dsimp only at hW
  have dr : ∀ (M0 : Mem) (f0 : FA), LL M0 l f0 → LL (mu M0 1 l 0 11 (M0 1 l 0 11 * 1103515245 + 12345)) l (drawF f0) ∧ ushr8 (M0 1 l 0 11 * 1103515245 + 12345) = drawV f0 := by
    intro M0 f0 h0
    have := h0.w11 (v := M0 1 l 0 11 * 1103515245 + 12345)
    rw [h0.z] at this ⊢
    exact ⟨this, rfl⟩
  obtain ⟨e, rfl⟩ : ∃ e, d = e + 1 := ⟨d - 1, by omega⟩
  refine td_X1_carryOne ?_
  intro S hS
  iterate 2 refine hS _ _ _ _ ?_
  refine sp_draw (by omega) ?_
  obtain ⟨a1, a2⟩ := dr M f hL
  rw [a2]
  generalize hM1 : mu M 1 l 0 11 (M 1 l 0 11 * 1103515245 + 12345) = M1 at *
  have f1 : Fn l M M1 := by rw [← hM1]; exact Fn.mu1 (by omega)
  iterate 2 refine hS _ _ _ _ ?_
  refine ⟨by decide, ?_⟩
  iterate 3 refine hS _ _ _ _ ?_
  refine And.intro (fun h11 => ?_) (fun h11 => ?_)
  · rw [a1.carry] at h11
    rw [if_neg (fun z => Int32.not_lt.mpr h11 z.1)] at hW
    iterate 4 refine hS _ _ _ _ ?_
    refine And.intro (fun _ => ?_) (fun h => absurd h (by decide))
    refine hS _ _ _ _ ?_
    exact hQ M1 f1 (by rw [← hW]; exact a1)
  · rw [a1.carry] at h11
    iterate 5 refine hS _ _ _ _ ?_
    refine And.intro (fun h => absurd h (by decide)) (fun _ => ?_)
    iterate 3 refine hS _ _ _ _ ?_
    refine And.intro (fun h28 => ?_) (fun h28 => ?_)
    · rw [a1.bc, ← a1.1.1] at h28
      rw [if_neg (fun z => Int32.not_lt.mpr h28 z.2)] at hW
      refine hS _ _ _ _ ?_
      exact hQ M1 f1 (by rw [← hW]; exact a1)
    · rw [a1.bc, ← a1.1.1] at h28
      rw [if_pos ⟨nle_lt h11, nle_lt h28⟩] at hW
      obtain ⟨c, hc, ec⟩ := carry_ix (draw_kp.cn cV) (nle_lt h28) (drawZ (drawF f))
      rw [draw_kp.cb] at hc
      have hc10 : c < 10 := by omega
      have ec' : irem (drawV (drawF f)) (drawF f 1) = nI c := ec
      rw [ec', nI_clamp (by omega)] at hW
      iterate 2 refine hS _ _ _ _ ?_
      refine sp_draw (by omega) ?_
      obtain ⟨b1, b2⟩ := dr M1 _ a1
      rw [b2]
      generalize hM2 : mu M1 1 l 0 11 (M1 1 l 0 11 * 1103515245 + 12345) = M2 at *
      have f2 : Fn l M1 M2 := by rw [← hM2]; exact Fn.mu1 (by omega)
      iterate 3 refine hS _ _ _ _ ?_
      rw [show gfv M2 1 l 0 2 = .inl (drawF f 1) from congrArg Sum.inl (b1.bc.trans (b1.1.1.symm.trans (draw_hi (by decide))))]
      refine ⟨fun z => h28 (by rw [show drawF f 1 = 0 from z]; exact Int32.le_refl _), ?_⟩
      rw [ec']
      iterate 5 refine hS _ _ _ _ ?_
      refine ⟨(by first | assumption | exact vp_in_nI (by simp only [alen]; omega) (by decide)), ?_⟩
      try rw [nI_clamp (by omega)]
      iterate 2 refine hS _ _ _ _ ?_
      refine sp_draw (by omega) ?_
      obtain ⟨c1, c2⟩ := dr M2 _ b1
      rw [c2]
      generalize hM3 : mu M2 1 l 0 11 (M2 1 l 0 11 * 1103515245 + 12345) = M3 at *
      have f3 : Fn l M2 M3 := by rw [← hM3]; exact Fn.mu1 (by omega)
      iterate 2 refine hS _ _ _ _ ?_
      refine ⟨by decide, ?_⟩
      iterate 8 refine hS _ _ _ _ ?_
      refine hQ _ ((((f1.tr f2).tr f3).tr (Fn.mu1 (by omega))).tr (Fn.mu1 (by omega))) ?_
      have d1 := c1.b1 (c := c) (v := irem (drawV (drawF (drawF f))) 8) (by rw [((draw_kp.tr draw_kp).tr draw_kp).cb]; exact hc)
      have d2 := d1.w9 (v := upd (drawF (drawF (drawF f))) (11 + 4 * c) (irem (drawV (drawF (drawF f))) 8) 8 + 1)
      rw [← hW]
      rw [← d1.carried] at d2 ⊢
      exact d2
theorem liesLow {f : FA} (hC : CN f) : ∀ b q, ((liesF f (cP f)).2 b).testBit q = true → q < cP f := fun b q h => (lies_bit (cP f) hC.2.2.2.1 h).1
theorem sp_passNight (hd : 5 ≤ d) (hL : LL M l f) (hT : TX M f) (hK : FK f) (hQ : ∀ M', Fn l M M' → LL M' l (nightF f) → Q none M') : Td PR d 19 [.inr (1, l, 0)] M Q := by
  have cV := hL.1
  have hp9 := hL.p9
  have k1 := lies_kp (f := f) (cP f) hp9
  obtain ⟨e, rfl⟩ : ∃ e, d = e + 1 := ⟨d - 1, by omega⟩
  refine td_X1_passNight ?_
  intro S hS
  iterate 2 refine hS _ _ _ _ ?_
  refine sp_lieDown (by omega) hL hT hK (fun M1 f1 a1 a2 a3 => ?_)
  iterate 2 refine hS _ _ _ _ ?_
  refine sp_wake (g := (liesF f (cP f)).2) (by omega) a1 (lies_g (cP f) hp9) (fun b hb => by rw [k1.cb] at hb; exact a2 b hb) (fun q hq b hb => by rw [k1.cp] at hq; rw [k1.cb] at hb; exact a3 q hq b hb) (fun b q h => by rw [k1.cp]; exact liesLow cV b q h) (fun b q h => by rw [lies_53 (cP f) hp9]; exact (lies_bit (cP f) hp9 h).2) (fun M2 f2 b1 => ?_)
  iterate 2 refine hS _ _ _ _ ?_
  refine sp_carryOne (by omega) b1 (fun M3 f3 c1 => ?_)
  iterate 7 refine hS _ _ _ _ ?_
  refine hQ _ (((f1.tr f2).tr f3).tr (Fn.mu1 (by omega))) ?_
  rw [k1.cb] at c1
  have e : nightF f = upd (carryF (wakeF (liesF f (cP f)).2 (liesF f (cP f)).1 (cB f))) 2 (M3 1 l 0 10 + 1) := by rw [c1.night]; rfl
  rw [e]
  exact c1.w10
theorem sp_passNights {n : Nat} (hd : 6 ≤ d) (hL : LL M l f) (hT : TX M f) (hK : FK f) (hN : NM K f) (hn : n ≤ 100000) (hQ : ∀ M', Fn l M M' → LL M' l (nightsF f n) → Q none M') : Td PR d 18 [.inr (1, l, 0), .inl (nI n)] M Q := by
  obtain ⟨e, rfl⟩ : ∃ e, d = e + 1 := ⟨d - 1, by omega⟩
  refine td_X1_passNights ?_
  intro S hS
  iterate 2 refine hS _ _ _ _ ?_
  refine lp_up (T := fun i => ∀ M', Fn l M M' → LL M' l (nightsF f i) → S 2 [some (.inr (1, l, 0)), some (.inl (nI n)), some (.inl (nI i))] [] M') (N := n) ?_ ?_ 0 (Nat.zero_le _) M Fn.rf hL
  · intro M' a1 a2
    iterate 3 refine hS _ _ _ _ ?_
    refine And.intro (fun h4 => ?_) (fun h4 => ?_)
    · refine hS _ _ _ _ ?_
      exact hQ M' a1 a2
    · exact (lp_x rfl h4).elim
  · intro i hi ih M' a1 a2
    iterate 3 refine hS _ _ _ _ ?_
    refine And.intro (fun h4 => ?_) (fun h4 => ?_)
    · exact (lp_s rfl hi (by omega) h4).elim
    · iterate 2 refine hS _ _ _ _ ?_
      refine sp_passNight (by omega) a2 ((a1.tx hT).cg (nights_kn hN i).2.2.2 rfl rfl) (nights_fk hN hK i) (fun M2 b1 b2 => ?_)
      iterate 2 refine hS _ _ _ _ ?_
      have := ih M2 (a1.tr b1) b2
      rw [nI_succ] at this
      exact this
theorem sp_isAtHome (hd : 1 ≤ d) (hL : LL M l f) (hp : p < cP f) (hQ : Q (some (.inl (bI (f (50 + 4 * p) = f (51 + 4 * p))))) M) : Td PR d 15 [.inr (1, l, 0), .inl (nI p)] M Q := by
  have e0 := hL.town hp
  have e1 := hL.home hp
  have hp9 := hL.p9
  obtain ⟨e, rfl⟩ : ∃ e, d = e + 1 := ⟨d - 1, by omega⟩
  refine td_X1_isAtHome ?_
  intro S hS
  iterate 4 refine hS _ _ _ _ ?_
  refine ⟨(by first | assumption | exact vp_in_nI (by simp only [alen]; omega) (by decide)), ?_⟩
  try rw [nI_clamp (by omega)]
  iterate 5 refine hS _ _ _ _ ?_
  refine ⟨(by first | assumption | exact vp_in_nI (by simp only [alen]; omega) (by decide)), ?_⟩
  try rw [nI_clamp (by omega)]
  iterate 2 refine hS _ _ _ _ ?_
  refine And.intro (fun h18 => ?_) (fun h18 => ?_)
  · iterate 2 refine hS _ _ _ _ ?_
    refine ⟨rfl, ?_⟩
    first | (refine qv hQ (bI_p ?_); rw [← e0, ← e1]; assumption) | (refine qv hQ (bI_n ?_); rw [← e0, ← e1]; assumption)
  · iterate 3 refine hS _ _ _ _ ?_
    refine ⟨rfl, ?_⟩
    first | (refine qv hQ (bI_p ?_); rw [← e0, ← e1]; assumption) | (refine qv hQ (bI_n ?_); rw [← e0, ← e1]; assumption)
/-- those of whom something holds, of the first n, as a set -/
noncomputable def setF (P : Nat → Prop) : Nat → Nat
  | 0 => 0
  | n + 1 => setF P n ||| (@ite _ (P n) (Classical.propDecidable _) (2 ^ n) 0)
theorem setF_lt (P : Nat → Prop) : ∀ n, setF P n < 2 ^ n := by
  intro n
  induction n with
  | zero => exact Nat.one_pos
  | succ n ih =>
    unfold setF
    refine Nat.or_lt_two_pow (Nat.lt_of_lt_of_le ih (Nat.pow_le_pow_right (by omega) (by omega))) ?_
    split
    · exact Nat.pow_lt_pow_right (by omega) (by omega)
    · exact Nat.two_pow_pos _
theorem setF_t {P : Nat → Prop} {n : Nat} (h : P n) : setF P (n + 1) = setF P n ||| 2 ^ n := by
  show setF P n ||| _ = _
  rw [if_pos h]
theorem setF_f {P : Nat → Prop} {n : Nat} (h : ¬ P n) : setF P (n + 1) = setF P n := by
  show setF P n ||| _ = _
  rw [if_neg h, Nat.or_zero]
theorem setF_512 (P : Nat → Prop) {n : Nat} (h : n ≤ 9) : setF P n < 512 := Nat.lt_of_lt_of_le (setF_lt P n) (Nat.pow_le_pow_right (by omega) h)
def homeP (f : FA) (p : Nat) : Prop := f (50 + 4 * p) = f (51 + 4 * p)
noncomputable def homeF (f : FA) : Nat := setF (homeP f) (cP f)
theorem sp_thoseAtHome (hd : 2 ≤ d) (hL : LL M l f) (hQ : Q (some (.inl (nI (homeF f)))) M) : Td PR d 16 [.inr (1, l, 0)] M Q := by
  have hp9 := hL.p9
  obtain ⟨e, rfl⟩ : ∃ e, d = e + 1 := ⟨d - 1, by omega⟩
  refine td_X1_thoseAtHome ?_
  intro S hS
  iterate 4 refine hS _ _ _ _ ?_
  refine lp_up (T := fun i => S 4 [some (.inr (1, l, 0)), some (.inl (nI (setF (homeP f) i))), some (.inl (nI i))] [] M) (N := cP f) ?_ ?_ 0 (Nat.zero_le _)
  · iterate 4 refine hS _ _ _ _ ?_
    refine And.intro (fun h9 => ?_) (fun h9 => ?_)
    · iterate 2 refine hS _ _ _ _ ?_
      exact hQ
    · exact (lp_x hL.pc h9).elim
  · intro i hi ih
    rw [nI_succ] at ih
    iterate 4 refine hS _ _ _ _ ?_
    refine And.intro (fun h9 => ?_) (fun h9 => ?_)
    · exact (lp_s hL.pc hi (by omega) h9).elim
    · iterate 3 refine hS _ _ _ _ ?_
      refine sp_isAtHome (by omega) hL hi ?_
      refine hS _ _ _ _ ?_
      refine And.intro (fun h17 => ?_) (fun h17 => ?_)
      · replace h17 := bI_f h17
        iterate 2 refine hS _ _ _ _ ?_
        rw [setF_f (P := homeP f) h17] at ih
        exact ih
      · replace h17 := bI_t h17
        iterate 8 refine hS _ _ _ _ ?_
        rw [setF_t (P := homeP f) h17, ← (orb _ (setF_512 _ (by omega)) i (by omega)).1] at ih
        exact ih
theorem sp_thoseIn {w : Int32} (hd : 1 ≤ d) (hL : LL M l f) (hQ : Q (some (.inl (nI (setF (fun p => f (50 + 4 * p) = w) (cP f))))) M) : Td PR d 14 [.inr (1, l, 0), .inl w] M Q := by
  have hp9 := hL.p9
  obtain ⟨e, rfl⟩ : ∃ e, d = e + 1 := ⟨d - 1, by omega⟩
  refine td_X1_thoseIn ?_
  intro S hS
  iterate 4 refine hS _ _ _ _ ?_
  refine lp_up (T := fun i => S 4 [some (.inr (1, l, 0)), some (.inl w), some (.inl (nI (setF (fun p => f (50 + 4 * p) = w) i))), some (.inl (nI i))] [] M) (N := cP f) ?_ ?_ 0 (Nat.zero_le _)
  · iterate 4 refine hS _ _ _ _ ?_
    refine And.intro (fun h9 => ?_) (fun h9 => ?_)
    · iterate 2 refine hS _ _ _ _ ?_
      exact hQ
    · exact (lp_x hL.pc h9).elim
  · intro i hi ih
    rw [nI_succ] at ih
    have e0 := hL.town hi
    iterate 4 refine hS _ _ _ _ ?_
    refine And.intro (fun h9 => ?_) (fun h9 => ?_)
    · exact (lp_s hL.pc hi (by omega) h9).elim
    · iterate 4 refine hS _ _ _ _ ?_
      refine ⟨(by first | assumption | exact vp_in_nI (by simp only [alen]; omega) (by decide)), ?_⟩
      try rw [nI_clamp (by omega)]
      iterate 3 refine hS _ _ _ _ ?_
      refine And.intro (fun h22 => ?_) (fun h22 => ?_)
      · iterate 2 refine hS _ _ _ _ ?_
        rw [setF_f (by rw [← e0]; exact h22)] at ih
        exact ih
      · iterate 8 refine hS _ _ _ _ ?_
        rw [setF_t (by rw [← e0]; exact h22), ← (orb _ (setF_512 _ (by omega)) i (by omega)).1] at ih
        exact ih
theorem sp_thoseGone (hd : 1 ≤ d) (hL : LL M l f) (hQ : Q (some (.inl (nI (setF (fun p => ¬ f (53 + 4 * p) = 0) (cP f))))) M) : Td PR d 17 [.inr (1, l, 0)] M Q := by
  have hp9 := hL.p9
  obtain ⟨e, rfl⟩ : ∃ e, d = e + 1 := ⟨d - 1, by omega⟩
  refine td_X1_thoseGone ?_
  intro S hS
  iterate 4 refine hS _ _ _ _ ?_
  refine lp_up (T := fun i => S 4 [some (.inr (1, l, 0)), some (.inl (nI (setF (fun p => ¬ f (53 + 4 * p) = 0) i))), some (.inl (nI i))] [] M) (N := cP f) ?_ ?_ 0 (Nat.zero_le _)
  · iterate 4 refine hS _ _ _ _ ?_
    refine And.intro (fun h9 => ?_) (fun h9 => ?_)
    · iterate 2 refine hS _ _ _ _ ?_
      exact hQ
    · exact (lp_x hL.pc h9).elim
  · intro i hi ih
    rw [nI_succ] at ih
    have e0 := hL.gone hi
    iterate 4 refine hS _ _ _ _ ?_
    refine And.intro (fun h9 => ?_) (fun h9 => ?_)
    · exact (lp_s hL.pc hi (by omega) h9).elim
    · iterate 4 refine hS _ _ _ _ ?_
      refine ⟨(by first | assumption | exact vp_in_nI (by simp only [alen]; omega) (by decide)), ?_⟩
      try rw [nI_clamp (by omega)]
      iterate 2 refine hS _ _ _ _ ?_
      refine And.intro (fun h21 => ?_) (fun h21 => ?_)
      · iterate 2 refine hS _ _ _ _ ?_
        rw [setF_f (by rw [← e0]; exact fun z => z h21)] at ih
        exact ih
      · iterate 8 refine hS _ _ _ _ ?_
        rw [setF_t (by rw [← e0]; exact h21), ← (orb _ (setF_512 _ (by omega)) i (by omega)).1] at ih
        exact ih
end W14
