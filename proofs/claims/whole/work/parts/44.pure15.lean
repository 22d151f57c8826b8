-- 44.pure15: towns stay towns
def RG (f : FA) : Prop := (∀ b, b < cB f → isBd 8 (f (11 + 4 * b)) ∧ isBd 8 (f (12 + 4 * b)) ∧ isBd 8 (f (13 + 4 * b))) ∧ (∀ p, p < cP f → isBd 8 (f (50 + 4 * p)))
theorem lie_lo {f : FA} {g : Nat → Nat} {p k : Nat} (hp : p < 9) (h6 : k ≠ 6) (h2 : ∀ q, k ≠ 52 + 4 * q) : (lieF (f, g) p).1 k = f k := by
  unfold lieF
  split
  · split
    · show upd _ _ _ _ = _
      rw [upd_ne (h2 p), upd_ne h6]
    · rfl
  · rfl
theorem lies_lo {f : FA} {k : Nat} (h6 : k ≠ 6) (h2 : ∀ q, k ≠ 52 + 4 * q) : ∀ n, n ≤ 9 → (liesF f n).1 k = f k := by
  intro n
  induction n with
  | zero => intro _; rfl
  | succ n ih => intro hn; exact (lie_lo (f := (liesF f n).1) (g := (liesF f n).2) (by omega) h6 h2).trans (ih (by omega))
theorem lies_rg {f : FA} (h : RG f) {n : Nat} (hn : n ≤ 9) (hb : cB f ≤ 10) : RG (liesF f n).1 := by
  have k := lies_kp (f := f) n hn
  refine ⟨fun b hb' => ?_, fun p hp => ?_⟩
  · rw [k.cb] at hb'
    rw [lies_lo (by omega) (fun q => by omega) n hn, lies_lo (by omega) (fun q => by omega) n hn, lies_lo (by omega) (fun q => by omega) n hn]
    exact h.1 b hb'
  · rw [k.cp] at hp
    rw [lies_lo (by omega) (fun q => by omega) n hn]
    exact h.2 p hp
theorem wakeP_50 {s : Nat} {w gn : Int32} {f : FA} (hw : isBd 8 w) {q : Nat} (h : isBd 8 (f (50 + 4 * q))) : ∀ n, isBd 8 (wakeP s w gn f n (50 + 4 * q)) := by
  intro n
  induction n with
  | zero => exact h
  | succ n ih =>
    rw [wakeP_s]
    split
    · by_cases z : q = n
      · subst z
        rw [upd_ne (by omega), upd_ne (by omega), upd_at]
        exact hw
      · rw [upd_ne (by omega), upd_ne (by omega), upd_ne (by omega)]
        exact ih
    · exact ih
theorem takes_bd {f : FA} {b : Nat} {m : Int32} (h : isBd 8 (f (11 + 4 * b)) ∧ isBd 8 (f (12 + 4 * b)) ∧ isBd 8 (f (13 + 4 * b))) : isBd 8 (takesF f b m) := by
  unfold takesF takesI
  split
  · split
    · exact h.2.1
    · exact h.1
  · split
    · split
      · exact h.2.1
      · exact h.2.2
    · exact h.2.1
theorem wakeB_rg {g : Nat → Nat} {f : FA} {b : Nat} (hb : b < cB f) (h10 : cB f ≤ 10) (hp : cP f ≤ 9) (h : RG f) : RG (wakeB g f b) := by
  have k := wakeB_kp (g := g) (f := f) (b := b) (by omega) hp
  have ht := takes_bd (m := nI (pcnt 9 (g b))) (h.1 b hb)
  refine ⟨fun c hc => ?_, fun p hp' => ?_⟩
  · rw [k.cb] at hc
    have q := h.1 c hc
    unfold wakeB
    have lo : ∀ s w gn, (wakeP s w gn f (cP f) (11 + 4 * c) = f (11 + 4 * c)) ∧ (wakeP s w gn f (cP f) (12 + 4 * c) = f (12 + 4 * c)) ∧ (wakeP s w gn f (cP f) (13 + 4 * c) = f (13 + 4 * c)) := fun s w gn => ⟨wakeP_lo (by omega) _ hp, wakeP_lo (by omega) _ hp, wakeP_lo (by omega) _ hp⟩
    split
    · by_cases z : c = b
      · subst z
        rw [upd_ne (show 11 + 4 * c ≠ 12 + 4 * c by omega), upd_at, upd_at, upd_ne (show 13 + 4 * c ≠ 12 + 4 * c by omega), upd_ne (show 13 + 4 * c ≠ 11 + 4 * c by omega), upd_ne (by omega), upd_ne (by omega), (lo _ _ _).2.2]
        exact ⟨q.2.1, q.1, q.2.2⟩
      · rw [upd_ne (by omega), upd_ne (by omega), upd_ne (by omega), upd_ne (by omega), upd_ne (by omega), upd_ne (by omega), upd_ne (by omega), upd_ne (by omega), upd_ne (by omega), upd_ne (by omega), upd_ne (by omega), upd_ne (by omega), (lo _ _ _).1, (lo _ _ _).2.1, (lo _ _ _).2.2]
        exact q
    · rw [upd_ne (by omega), upd_ne (by omega), upd_ne (by omega), upd_ne (by omega), upd_ne (by omega), upd_ne (by omega), (lo _ _ _).1, (lo _ _ _).2.1, (lo _ _ _).2.2]
      exact q
  · rw [k.cp] at hp'
    unfold wakeB
    split
    · rw [upd_ne (by omega), upd_ne (by omega), upd_ne (by omega), upd_ne (by omega)]
      exact wakeP_50 ht (h.2 p hp') _
    · rw [upd_ne (by omega), upd_ne (by omega)]
      exact wakeP_50 ht (h.2 p hp') _
theorem wakeF_rg {g : Nat → Nat} {f : FA} (h10 : cB f ≤ 10) (hp : cP f ≤ 9) (h : RG f) : ∀ n, n ≤ cB f → RG (wakeF g f n) := by
  intro n
  induction n with
  | zero => intro _; exact h
  | succ n ih =>
    intro hn
    have k := wakeF_kp (g := g) hp n (by omega)
    exact wakeB_rg (by rw [k.cb]; omega) (by rw [k.cb]; exact h10) (by rw [k.cp]; exact hp) (ih (by omega))
theorem rem8 (x : Int32) : isBd 8 (irem (ushr8 x) 8) := by
  obtain ⟨m, hm, e⟩ := ushr8_nI x
  rw [e, show (8 : Int32) = nI 8 from rfl, irem_nI (by omega) (by decide)]
  exact ⟨m % 8, Nat.mod_lt _ (by decide), rfl⟩
theorem carry_rg {f : FA} (hC : CN f) (h : RG f) : RG (carryF f) := by
  have k := carry_kp hC
  have b10 := hC.2.1
  have p9 := hC.2.2.2.1
  refine ⟨fun c hc => ?_, fun p hp => ?_⟩
  · rw [k.cb] at hc
    have q := h.1 c hc
    unfold carryF
    dsimp only
    split
    · rename_i h
      obtain ⟨b, hb, e⟩ := carry_ix (draw_kp.cn hC) h.2 (drawZ (drawF f))
      have e' : irem (drawV (drawF f)) ((drawF f) 1) = nI b := e
      rw [draw_kp.cb] at hb
      rw [e', nI_clamp (by omega)]
      rw [upd_ne (show 11 + 4 * c ≠ 8 by omega), upd_ne (show 12 + 4 * c ≠ 8 by omega), upd_ne (show 13 + 4 * c ≠ 8 by omega), upd_ne (show 12 + 4 * c ≠ 11 + 4 * b by omega), upd_ne (show 13 + 4 * c ≠ 11 + 4 * b by omega)]
      rw [draw_hi (k := 12 + 4 * c) (by omega), draw_hi (k := 12 + 4 * c) (by omega), draw_hi (k := 12 + 4 * c) (by omega), draw_hi (k := 13 + 4 * c) (by omega), draw_hi (k := 13 + 4 * c) (by omega), draw_hi (k := 13 + 4 * c) (by omega)]
      refine ⟨?_, q.2⟩
      by_cases z : c = b
      · subst z
        rw [upd_at]
        exact rem8 _
      · rw [upd_ne (by omega), draw_hi (by omega), draw_hi (by omega), draw_hi (by omega)]
        exact q.1
    · rw [draw_hi (by omega), draw_hi (by omega), draw_hi (by omega)]
      exact q
  · rw [k.cp] at hp
    rw [carry_hi hC (by omega)]
    exact h.2 p hp
theorem night_rg {f : FA} (hC : CN f) (h : RG f) : RG (nightF f) := by
  have b10 := hC.2.1
  have p9 := hC.2.2.2.1
  have h1 := lies_kp (f := f) (cP f) p9
  have r1 := lies_rg h p9 b10
  have h2 := wakeF_kp (g := (liesF f (cP f)).2) (f := (liesF f (cP f)).1) (by rw [h1.cp]; exact p9) (cB f) b10
  have r2 := wakeF_rg (g := (liesF f (cP f)).2) (f := (liesF f (cP f)).1) (by rw [h1.cb]; exact b10) (by rw [h1.cp]; exact p9) r1 (cB f) (by rw [h1.cb]; exact Nat.le_refl _)
  have r3 := carry_rg ((h1.tr h2).cn hC) r2
  have kn := night_mid hC
  refine ⟨fun c hc => ?_, fun p hp => ?_⟩
  · rw [(night_kn hC).cb] at hc
    unfold nightF
    rw [upd_ne (by omega), upd_ne (by omega), upd_ne (by omega)]
    exact r3.1 c (by rw [kn.cb]; exact hc)
  · rw [(night_kn hC).cp] at hp
    unfold nightF
    rw [upd_ne (by omega)]
    exact r3.2 p (by rw [kn.cp]; exact hp)
/-- all that a land must be, THE NIGHT below K -/
def WF (K : Nat) (f : FA) : Prop := NM K f ∧ FK f ∧ RG f
theorem night_wf {K : Nat} {f : FA} (h : WF K f) : WF (K + 1) (nightF f) := ⟨night_nm h.1, night_fk h.1.1 h.2.1, night_rg h.1.1 h.2.2⟩
theorem nights_wf {K : Nat} {f : FA} (h : WF K f) : ∀ n, WF (K + n) (nightsF f n) := by
  intro n
  induction n with
  | zero => exact h
  | succ n ih => exact night_wf ih
theorem none_town {x : Int32} (h : isBd 8 x) : ¬ x = -1000000005 := fun z => by
  obtain ⟨j, hj, e⟩ := h
  rw [e] at z
  exact nI_pos (n := j) (by omega) (by rw [z]; decide)
/-- behind how many nights one is at home first, looking from k on, n times -/
noncomputable def hbF (f : FA) (p : Nat) : Nat → Nat → Nat
  | k, 0 => k
  | k, n + 1 => @ite _ (homeP (nightsF f k) p) (Classical.propDecidable _) k (hbF f p (k + 1) n)
theorem hbF_t {f : FA} {p k n : Nat} (h : homeP (nightsF f k) p) : hbF f p k (n + 1) = k := by
  unfold hbF
  rw [if_pos h]
theorem hbF_f {f : FA} {p k n : Nat} (h : ¬ homeP (nightsF f k) p) : hbF f p k (n + 1) = hbF f p (k + 1) n := by
  conv => lhs; unfold hbF
  rw [if_neg h]
theorem hbF_le {f : FA} {p : Nat} : ∀ n k, hbF f p k n ≤ k + n ∧ k ≤ hbF f p k n := by
  intro n
  induction n with
  | zero => intro k; exact ⟨Nat.le_refl _, Nat.le_refl _⟩
  | succ n ih =>
    intro k
    by_cases h : homeP (nightsF f k) p
    · rw [hbF_t h]; omega
    · rw [hbF_f h]
      have := ih (k + 1)
      omega
/-- fewer looks find the same, or nothing -/
theorem hbF_cut {f : FA} {p : Nat} : ∀ m n k, m ≤ n → hbF f p k m = if hbF f p k n < k + m then hbF f p k n else k + m := by
  intro m
  induction m with
  | zero =>
    intro n k _
    rw [if_neg (by have := hbF_le (f := f) (p := p) n k; omega)]
    rfl
  | succ m ih =>
    intro n k hn
    obtain ⟨n, rfl⟩ : ∃ n', n = n' + 1 := ⟨n - 1, by omega⟩
    by_cases h : homeP (nightsF f k) p
    · rw [hbF_t h, hbF_t h, if_pos (by omega)]
    · rw [hbF_f h, hbF_f h, ih n (k + 1) (by omega), show k + 1 + m = k + (m + 1) by omega]
/-- how often a row tells the town of one, of the first n -/
def toldF (f : FA) (p : Nat) (c : FA) : Nat → Nat
  | 0 => 0
  | n + 1 => toldF f p c n + (if c n = nightsF f n (50 + 4 * p) then 1 else 0)
theorem toldF_le {f : FA} {p : Nat} {c : FA} : ∀ n, toldF f p c n ≤ n := by
  intro n
  induction n with
  | zero => exact Nat.le_refl _
  | succ n ih => unfold toldF; split <;> omega
