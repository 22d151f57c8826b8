-- 42.pure13: the class's night: waking
theorem upd_ap {f : FA} {k j : Nat} {v : Int32} : upd f k v j = if j = k then v else f j := rfl
theorem upd_id {f : FA} {k : Nat} : upd f k (f k) = f := by
  funext j
  rw [upd_ap]
  by_cases z : j = k
  · rw [if_pos z, z]
  · rw [if_neg z]
theorem wakeP_5 {s : Nat} {w gn : Int32} {f : FA} {c q : Nat} (hc : c < 4) : ∀ n, n ≤ q → wakeP s w gn f n (50 + 4 * q + c) = f (50 + 4 * q + c) := by
  intro n
  induction n with
  | zero => intro _; rfl
  | succ n ih =>
    intro hn
    rw [wakeP_s]
    split
    · rw [upd_ne (by omega), upd_ne (by omega), upd_ne (by omega)]
      exact ih (by omega)
    · exact ih (by omega)
theorem wakeP_53 {s : Nat} {w gn : Int32} {f : FA} {q : Nat} (h : ¬ s.testBit q = true) : ∀ n, wakeP s w gn f n (53 + 4 * q) = f (53 + 4 * q) := by
  intro n
  induction n with
  | zero => rfl
  | succ n ih =>
    rw [wakeP_s]
    split
    · rename_i z
      have : n ≠ q := fun e => h (e ▸ z)
      rw [upd_ne (by omega), upd_ne (by omega), upd_ne (by omega)]
      exact ih
    · exact ih
theorem wakeP_fk {s : Nat} {w gn : Int32} {f : FA} (hg : isBd 2 gn) {q : Nat} (h : isBd 10 (f (52 + 4 * q)) ∧ isBd 2 (f (53 + 4 * q))) : ∀ n, isBd 10 (wakeP s w gn f n (52 + 4 * q)) ∧ isBd 2 (wakeP s w gn f n (53 + 4 * q)) := by
  intro n
  induction n with
  | zero => exact h
  | succ n ih =>
    rw [wakeP_s]
    split
    · by_cases z : q = n
      · subst z
        rw [upd_at, upd_ne (by omega), upd_at]
        exact ⟨⟨0, by omega, rfl⟩, hg⟩
      · rw [upd_ne (by omega), upd_ne (by omega), upd_ne (by omega), upd_ne (by omega), upd_ne (by omega), upd_ne (by omega)]
        exact ih
    · exact ih
theorem wakeB_53 {g : Nat → Nat} {f : FA} {b q : Nat} (hb : b < 10) (h : ¬ (g b).testBit q = true) : wakeB g f b (53 + 4 * q) = f (53 + 4 * q) := by
  unfold wakeB
  split
  · rw [upd_ne (by omega), upd_ne (by omega), upd_ne (by omega), upd_ne (by omega)]
    exact wakeP_53 h _
  · rw [upd_ne (by omega), upd_ne (by omega)]
    exact wakeP_53 h _
theorem gn_bd {p : Prop} [Decidable p] : isBd 2 (if p then (1 : Int32) else 0) := by
  split
  · exact ⟨1, by omega, rfl⟩
  · exact ⟨0, by omega, rfl⟩
theorem wakeB_fk {g : Nat → Nat} {f : FA} {b : Nat} (hb : b < 10) (hp : cP f ≤ 9) (h : FK f) : FK (wakeB g f b) := by
  intro q hq
  rw [(wakeB_kp hb hp).cp] at hq
  have h2 := wakeP_fk (s := g b) (w := takesF f b (nI (pcnt 9 (g b)))) (gn := if f (10 + 4 * b) = 5 then 1 else 0) gn_bd (h q hq) (cP f)
  unfold wakeB
  split
  · rw [upd_ne (by omega), upd_ne (by omega), upd_ne (by omega), upd_ne (by omega), upd_ne (by omega), upd_ne (by omega), upd_ne (by omega), upd_ne (by omega)]
    exact h2
  · rw [upd_ne (by omega), upd_ne (by omega), upd_ne (by omega), upd_ne (by omega)]
    exact h2
theorem wakeF_fk {g : Nat → Nat} {f : FA} (hp : cP f ≤ 9) (h : FK f) : ∀ n, n ≤ 10 → FK (wakeF g f n) := by
  intro n
  induction n with
  | zero => intro _; exact h
  | succ n ih =>
    intro hn
    have k := wakeF_kp (g := g) hp n (by omega)
    exact wakeB_fk (by omega) (by rw [k.cp]; exact hp) (ih (by omega))
theorem draw_hi {f : FA} {k : Nat} (h : 0 < k) : drawF f k = f k := upd_ne (by omega)
theorem carry_hi {f : FA} (hC : CN f) {k : Nat} (h : 50 ≤ k) : carryF f k = f k := by
  unfold carryF
  dsimp only
  split
  · rename_i h
    obtain ⟨b, hb, e⟩ := carry_ix (draw_kp.cn hC) h.2 (drawZ (drawF f))
    have e' : irem (drawV (drawF f)) ((drawF f) 1) = nI b := e
    rw [e']
    have hb9 : b < 10 := by have := (draw_kp.cn hC).2.1; omega
    rw [nI_clamp (by omega), upd_ne (by omega), upd_ne (by omega), draw_hi (by omega), draw_hi (by omega), draw_hi (by omega)]
  · exact draw_hi (by omega)
theorem night_fk {f : FA} (hC : CN f) (h : FK f) : FK (nightF f) := by
  intro q hq
  rw [(night_kn hC).cp] at hq
  have h1 := lies_kp (f := f) (cP f) hC.2.2.2.1
  have p9 : cP (liesF f (cP f)).1 ≤ 9 := by rw [h1.cp]; exact hC.2.2.2.1
  have h2 := wakeF_kp (g := (liesF f (cP f)).2) (f := (liesF f (cP f)).1) p9 (cB f) hC.2.1
  have h3 := wakeF_fk (g := (liesF f (cP f)).2) p9 (lies_fk h (cP f) hC.2.2.2.1) (cB f) hC.2.1 q (by rw [(h1.tr h2).cp]; exact hq)
  have hC2 := (h1.tr h2).cn hC
  unfold nightF
  rw [upd_ne (by omega), upd_ne (by omega), carry_hi hC2 (by omega), carry_hi hC2 (by omega)]
  exact h3
theorem nights_fk {K : Nat} {f : FA} (hN : NM K f) (h : FK f) : ∀ n, FK (nightsF f n) := by
  intro n
  induction n with
  | zero => exact h
  | succ n ih => exact night_fk (nights_nm hN n).1 ih
theorem pcnt_0 {m : Nat} : ∀ n, pcnt n m = 0 → ∀ q, q < n → ¬ m.testBit q = true := by
  intro n
  induction n with
  | zero => intro _ q hq; exact absurd hq (Nat.not_lt_zero _)
  | succ n ih =>
    intro h q hq z
    unfold pcnt at h
    by_cases e : q = n
    · subst e
      rw [if_pos z] at h
      omega
    · exact ih (by omega) q (by omega) z
theorem wakeP_0 {s : Nat} {w gn : Int32} {f : FA} : ∀ n, (∀ q, q < n → ¬ s.testBit q = true) → wakeP s w gn f n = f := by
  intro n
  induction n with
  | zero => intro _; rfl
  | succ n ih =>
    intro h
    rw [wakeP_s, if_neg (h n (by omega))]
    exact ih (fun q hq => h q (by omega))
theorem wakeB_0 {g : Nat → Nat} {f : FA} {b : Nat} (hp : cP f ≤ 9) (h : pcnt 9 (g b) = 0) : wakeB g f b = f := by
  unfold wakeB
  rw [h, if_neg (fun z => absurd z.1 (by decide)), wakeP_0 _ (fun q hq => pcnt_0 9 h q (by omega))]
  have e : (if f (10 + 4 * b) = 5 then nI 0 else 0) = 0 := by split <;> rfl
  rw [e, show nI 0 = 0 from rfl, Int32.add_zero, Int32.add_zero]
  rw [upd_id, upd_id]
/-- behind so many of those in a bed -/
def wkF (s : Nat) (w gn : Int32) (f : FA) (i : Nat) : FA := upd (upd (wakeP s w gn f i) 5 (f 5 + nI (pcnt i s))) 7 (f 7 + (if gn = 1 then nI (pcnt i s) else 0))
theorem wkF_n {s : Nat} {w gn : Int32} {f : FA} {i : Nat} (h : ¬ s.testBit i = true) : wkF s w gn f (i + 1) = wkF s w gn f i := by
  unfold wkF
  rw [wakeP_s, if_neg h]
  have : pcnt (i + 1) s = pcnt i s := by
    show pcnt i s + (if s.testBit i then 1 else 0) = _
    rw [if_neg h]; rfl
  rw [this]
theorem pcnt_t {s i : Nat} (h : s.testBit i = true) : nI (pcnt (i + 1) s) = nI (pcnt i s) + 1 := by
  have : pcnt (i + 1) s = pcnt i s + 1 := by
    show pcnt i s + (if s.testBit i then 1 else 0) = _
    rw [if_pos h]
  rw [this, nI_succ]
theorem wkF_t1 {s : Nat} {w : Int32} {f : FA} {i : Nat} (h : s.testBit i = true) : wkF s w 1 f (i + 1) = upd (upd (upd (upd (upd (wkF s w 1 f i) (50 + 4 * i) w) (52 + 4 * i) 0) 5 (wkF s w 1 f i 5 + 1)) (53 + 4 * i) 1) 7 (wkF s w 1 f i 7 + 1) := by
  have e5 : wkF s w 1 f i 5 = f 5 + nI (pcnt i s) := by unfold wkF; rw [upd_ne (by decide), upd_at]
  have e7 : wkF s w 1 f i 7 = f 7 + nI (pcnt i s) := by unfold wkF; rw [upd_at, if_pos rfl]
  rw [e5, e7]
  unfold wkF
  rw [wakeP_s, if_pos h, pcnt_t h, if_pos rfl, if_pos rfl, Int32.add_assoc, Int32.add_assoc]
  funext k
  simp only [upd_ap]
  by_cases z5 : k = 5
  · subst z5; simp [show ¬ (5 = 53 + 4 * i) by omega]
  · by_cases z7 : k = 7
    · subst z7; simp
    · simp only [if_neg z5, if_neg z7]
theorem wkF_t0 {s : Nat} {w : Int32} {f : FA} {i : Nat} (h : s.testBit i = true) (h0 : f (53 + 4 * i) = 0) : wkF s w 0 f (i + 1) = upd (upd (upd (wkF s w 0 f i) (50 + 4 * i) w) (52 + 4 * i) 0) 5 (wkF s w 0 f i 5 + 1) := by
  have e5 : wkF s w 0 f i 5 = f 5 + nI (pcnt i s) := by unfold wkF; rw [upd_ne (by decide), upd_at]
  rw [e5]
  have e53 : wakeP s w 0 f i (53 + 4 * i) = 0 := by
    have := wakeP_5 (s := s) (w := w) (gn := 0) (f := f) (c := 3) (q := i) (by decide) i (Nat.le_refl _)
    rw [show 53 + 4 * i = 50 + 4 * i + 3 by omega, this, show 50 + 4 * i + 3 = 53 + 4 * i by omega]
    exact h0
  unfold wkF
  rw [wakeP_s, if_pos h, pcnt_t h, if_neg (by decide), if_neg (by decide), Int32.add_assoc]
  funext k
  simp only [upd_ap]
  by_cases z5 : k = 5
  · subst z5; simp
  · by_cases z7 : k = 7
    · subst z7; simp [show ¬ (7 = 50 + 4 * i) by omega, show ¬ (7 = 52 + 4 * i) by omega]
    · simp only [if_neg z5, if_neg z7]
      by_cases z : k = 53 + 4 * i
      · subst z
        rw [if_pos rfl, if_neg (by omega), if_neg (by omega)]
        exact e53.symm
      · rw [if_neg z]
section W13
variable {d l b p K : Nat} {M : Mem} {Q : PQ} {f : FA}
theorem sp_wakeThoseIn {g : Nat → Nat} {w gn : Int32} (hd : 1 ≤ d) (hb : b < cB f) (hL : LL M l f) (hI : LI M l f g (cP f)) (h0 : ∀ q, (g b).testBit q = true → f (53 + 4 * q) = 0) (hg : gn = 0 ∨ gn = 1)
    (hQ : ∀ M', (∀ k i, ¬ (k = 1 ∧ i = l) → ¬ (k = 5 ∧ i = l) → M' k i = M k i) → (∀ q, M' 5 l q 4 = M 5 l q 4) → LL M' l (wkF (g b) w gn f (cP f)) → Q none M') : Td PR d 23 [.inr (1, l, 0), .inl (nI b), .inl w, .inl gn] M Q := by
  have hp9 := hL.p9
  have hb10 := hL.b10
  obtain ⟨e, rfl⟩ : ∃ e, d = e + 1 := ⟨d - 1, by omega⟩
  refine td_X1_wakeThoseIn ?_
  intro S hS
  have kw : ∀ i, i ≤ 9 → KP f (wkF (g b) w gn f i) := fun i hi => ((wakeP_kp hi).tr (KP.up (by omega))).tr (KP.up (by omega))
  iterate 2 refine hS _ _ _ _ ?_
  refine lp_up (T := fun i => ∀ (o : Option AV) M', (∀ k i, ¬ (k = 1 ∧ i = l) → ¬ (k = 5 ∧ i = l) → M' k i = M k i) → (∀ q, M' 5 l q 4 = M 5 l q 4) → LL M' l (wkF (g b) w gn f i) → S 3 [some (.inr (1, l, 0)), some (.inl (nI b)), some (.inl w), some (.inl gn), some (.inl (nI i)), o] [] M') (N := cP f) ?_ ?_ 0 (Nat.zero_le _) none M (fun _ _ _ _ => rfl) (fun _ => rfl) ?_
  · intro o M' a1 a2 a3
    have e4 : M' 1 l 0 4 = nI (cP f) := by rw [a3.pc, (kw _ hp9).cp]
    iterate 4 refine hS _ _ _ _ ?_
    refine And.intro (fun h9 => ?_) (fun h9 => ?_)
    · refine hS _ _ _ _ ?_
      exact hQ M' a1 a2 a3
    · exact (lp_x e4 h9).elim
  · intro i hi ih o M' a1 a2 a3
    have ki := kw i (by omega)
    have e4 : M' 1 l 0 4 = nI (cP f) := by rw [a3.pc, ki.cp]
    have hip : i < cP (wkF (g b) w gn f i) := by rw [ki.cp]; exact hi
    have hii := hI i hi b hb
    rw [← a2 i] at hii
    have go : ∀ M2 (o' : Option AV), (∀ k i, ¬ (k = 1 ∧ i = l) → ¬ (k = 5 ∧ i = l) → M2 k i = M' k i) → (∀ q, M2 5 l q 4 = M' 5 l q 4) → LL M2 l (wkF (g b) w gn f (i + 1)) → S 3 [some (.inr (1, l, 0)), some (.inl (nI b)), some (.inl w), some (.inl gn), some (.inl (nI i + 1)), o'] [] M2 := by
      intro M2 o' c1 c2 c3
      have := ih o' M2 (fun k i x y => (c1 k i x y).trans (a1 k i x y)) (fun q => (c2 q).trans (a2 q)) c3
      rw [nI_succ] at this
      exact this
    have w0 := a3.p0 (v := w) hip
    have w2 := w0.p2 (c := i) (v := 0) (by rw [(KP.up (by omega)).cp]; exact hip)
    have w5 := w2.w6 (v := M' 1 l 0 6 + 1)
    iterate 4 refine hS _ _ _ _ ?_
    refine And.intro (fun h9 => ?_) (fun h9 => ?_)
    · exact (lp_s e4 hi (by omega) h9).elim
    · iterate 4 refine hS _ _ _ _ ?_
      refine ⟨(by first | assumption | exact vp_in_nI (by simp only [alen]; omega) (by decide)), ?_⟩
      try rw [nI_clamp (by omega)]
      iterate 5 refine hS _ _ _ _ ?_
      refine And.intro (fun h27 => ?_) (fun h27 => ?_)
      · have ht : ¬ (g b).testBit i = true := fun z => h27 (hii.mpr z)
        iterate 2 refine hS _ _ _ _ ?_
        exact go M' _ (fun _ _ _ _ => rfl) (fun _ => rfl) (by rw [wkF_n ht]; exact a3)
      · have ht : (g b).testBit i = true := hii.mp h27
        iterate 14 refine hS _ _ _ _ ?_
        refine And.intro (fun h53 => ?_) (fun h53 => ?_)
        · iterate 2 refine hS _ _ _ _ ?_
          refine go _ _ (fun k i' x y => ?_) (fun q => ?_) ?_
          · rw [mu, mr_out x, mu, mr_out y, mu, mr_out y]
          · by_cases z : q = i
            · subst z
              rw [show ∀ (M0 : Mem) x, mu M0 1 l 0 6 x 5 l q 4 = M0 5 l q 4 from fun _ _ => rfl, mz_sl (by decide), mz_sl (by decide)]
            · rw [show ∀ (M0 : Mem) x, mu M0 1 l 0 6 x 5 l q 4 = M0 5 l q 4 from fun _ _ => rfl, mz_ne (fun y => z y.2.2), mz_ne (fun y => z y.2.2)]
          · rw [show gn = 0 from h53] at w5 a3 ⊢
            rw [wkF_t0 ht (h0 i ht), ← a3.slept]
            exact w5
        · iterate 11 refine hS _ _ _ _ ?_
          refine go _ _ (fun k i' x y => ?_) (fun q => ?_) ?_
          · rw [mu, mr_out x, mu, mr_out y, mu, mr_out x, mu, mr_out y, mu, mr_out y]
          · by_cases z : q = i
            · subst z
              rw [show ∀ (M0 : Mem) x, mu M0 1 l 0 8 x 5 l q 4 = M0 5 l q 4 from fun _ _ => rfl, mz_sl (by decide), show ∀ (M0 : Mem) x, mu M0 1 l 0 6 x 5 l q 4 = M0 5 l q 4 from fun _ _ => rfl, mz_sl (by decide), mz_sl (by decide)]
            · rw [show ∀ (M0 : Mem) x, mu M0 1 l 0 8 x 5 l q 4 = M0 5 l q 4 from fun _ _ => rfl, mz_ne (fun y => z y.2.2), show ∀ (M0 : Mem) x, mu M0 1 l 0 6 x 5 l q 4 = M0 5 l q 4 from fun _ _ => rfl, mz_ne (fun y => z y.2.2), mz_ne (fun y => z y.2.2)]
          · have g1 := hg.resolve_left h53
            have w7 := (w5.p3 (c := i) (v := 1) (by rw [((KP.up (by omega)).tr ((KP.up (by omega)).tr (KP.up (by omega)))).cp]; exact hip)).w8 (v := M' 1 l 0 8 + 1)
            rw [g1] at w7 a3 ⊢
            rw [wkF_t1 ht, ← a3.slept, ← a3.lost, show ∀ (M0 : Mem) (x y : Int32), mu (mu M0 1 l 0 6 x) 5 l i 3 y 1 l 0 8 = M0 1 l 0 8 from fun M0 x y => (mz_sl (by decide) : mu M0 1 l 0 6 x 1 l 0 8 = M0 1 l 0 8)]
            exact w7
  · have e : wkF (g b) w gn f 0 = f := by
      unfold wkF
      show upd (upd f 5 (f 5 + 0)) 7 (f 7 + (if gn = 1 then 0 else 0)) = f
      have e2 : (if gn = 1 then (0 : Int32) else 0) = 0 := by split <;> rfl
      rw [e2, Int32.add_zero, Int32.add_zero, upd_id, upd_id]
    rw [e]
    exact hL
end W13
