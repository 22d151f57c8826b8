-- 36.pure7: what a night keeps; the reference's night
theorem ushr8_nI (x : Int32) : ∃ m, m < 2 ^ 24 ∧ ushr8 x = nI m := by
  refine ⟨(x.toUInt32 >>> ((8 : Int32).toUInt32 &&& Int32.toUInt32 31)).toNat, ?_, ?_⟩
  · have e : ((8 : Int32).toUInt32 &&& Int32.toUInt32 31) = 8 := by decide
    rw [e, UInt32.toNat_shiftRight]
    have := x.toUInt32.toNat_lt
    rw [Nat.shiftRight_eq_div_pow]
    have e2 : (8 : UInt32).toNat % 32 = 8 := by decide
    rw [e2]
    omega
  · unfold ushr8 nI
    apply Int32.toBitVec_inj.mp
    show (x.toUInt32 >>> ((8 : Int32).toUInt32 &&& Int32.toUInt32 31)).toBitVec = _
    rw [Int32.toBitVec_ofNat']
    exact (BitVec.ofNat_toNat _ _ ▸ (by simp))
def KP (f f' : FA) : Prop := f' 1 = f 1 ∧ f' 2 = f 2 ∧ f' 3 = f 3 ∧ f' 4 = f 4 ∧ TXE f f'
theorem KP.rf {f : FA} : KP f f := ⟨rfl, rfl, rfl, rfl, TXE.rf⟩
theorem KP.tr {f g h : FA} (a : KP f g) (b : KP g h) : KP f h := ⟨b.1.trans a.1, b.2.1.trans a.2.1, b.2.2.1.trans a.2.2.1, b.2.2.2.1.trans a.2.2.2.1, a.2.2.2.2.tr b.2.2.2.2⟩
theorem KP.up {f : FA} {k : Nat} {v : Int32} (h : k = 0 ∨ (5 ≤ k ∧ k < 9) ∨ (10 ≤ k ∧ k < 86)) : KP f (upd f k v) := by
  refine ⟨upd_ne (by omega), upd_ne (by omega), upd_ne (by omega), upd_ne (by omega), upd_ne (by omega), fun j hj => upd_ne (by omega)⟩
theorem KP.cb {f f' : FA} (h : KP f f') : cB f' = cB f := by unfold cB; rw [h.1]
theorem KP.cp {f f' : FA} (h : KP f f') : cP f' = cP f := by unfold cP; rw [h.2.2.2.1]
theorem KP.ct {f f' : FA} (h : KP f f') : cT f' = cT f := h.2.2.2.2.ct0
theorem KP.cn {f f' : FA} (h : KP f f') (c : CN f) : CN f' := by
  unfold CN
  rw [h.cb, h.cp, h.ct, h.1, h.2.2.2.1, h.2.2.2.2.1]
  exact c
def TXF (f : FA) : Prop := ∀ t, t < cT f → txOk f t
theorem TXE.tok {f f' : FA} (e : TXE f f') {t : Nat} (h : txOk f t) : txOk f' t := by
  obtain ⟨ky, q1, q2, q3⟩ := h
  unfold txOk
  rw [e.len0, e.cx0, e.2 _ (by omega)]
  exact ⟨ky, q1, q2, q3⟩
theorem TXE.txf {f f' : FA} (e : TXE f f') (h : TXF f) : TXF f' := fun t ht => e.tok (h t (by rw [← e.ct0]; exact ht))
theorem okS_mono {c : FA} {a b n : Nat} (h : a ≤ b) (k : okS c a n) : okS c b n := by
  obtain ⟨h1, h2, h3, h4⟩ := k
  refine ⟨h1, h2, h3, fun k hk => ?_⟩
  rcases h4 k hk with ⟨j, hj, e⟩ | z
  · exact Or.inl ⟨j, by omega, e⟩
  · exact Or.inr z
theorem txOk.use {f : FA} {t : Nat} (h : txOk f t) : ∃ ky, ky < 3 ∧ f (86 + 2 * t) = nI (1000 * ky + lenF f t) ∧ okS (ctx f t) 3 (lenF f t) := by
  obtain ⟨ky, h1, h2, h3⟩ := h
  exact ⟨ky, h1, h2, okS_mono (by split <;> omega) h3⟩
theorem counts_c {f : FA} {ky : Int32} : ∀ n, countsF f ky n = -1 ∨ ∃ t, t < n ∧ countsF f ky n = nI t ∧ f (86 + 2 * t) / 1000 = ky := by
  intro n
  induction n with
  | zero => exact Or.inl rfl
  | succ n ih =>
    rw [countsF_s]
    by_cases h : f (86 + 2 * n) / 1000 = ky
    · rw [if_pos h]; exact Or.inr ⟨n, Nat.lt_succ_self n, rfl, h⟩
    · rw [if_neg h]
      rcases ih with z | ⟨t, h1, h2⟩
      · exact Or.inl z
      · exact Or.inr ⟨t, by omega, h2⟩
theorem freeF_s {f : FA} {g : Nat → Nat} {w : Int32} {b n : Nat} : freeF f g w b (n + 1) = if f (11 + 4 * b) = w ∧ nI (pcnt 9 (g b)) < wideB f b then nI b else freeF f g w (b + 1) n := rfl
theorem freeF_c {f : FA} {g : Nat → Nat} {w : Int32} : ∀ n b, freeF f g w b n = -1 ∨ ∃ t, t < b + n ∧ freeF f g w b n = nI t := by
  intro n
  induction n with
  | zero => intro b; exact Or.inl rfl
  | succ n ih =>
    intro b
    rw [freeF_s]
    by_cases h : f (11 + 4 * b) = w ∧ nI (pcnt 9 (g b)) < wideB f b
    · rw [if_pos h]; exact Or.inr ⟨b, by omega, rfl⟩
    · rw [if_neg h]
      rcases ih (b + 1) with z | ⟨t, h1, h2⟩
      · exact Or.inl z
      · exact Or.inr ⟨t, by omega, h2⟩
theorem bedF_c {f : FA} {g : Nat → Nat} {p : Nat} : bedF f g p = -1 ∨ ∃ t, t < cB f ∧ bedF f g p = nI t := by
  unfold bedF
  split
  · exact Or.inl rfl
  · rcases freeF_c (f := f) (g := g) (w := f (50 + 4 * p)) (cB f) 0 with z | ⟨t, h1, h2⟩
    · exact Or.inl z
    · exact Or.inr ⟨t, by omega, h2⟩
theorem orb : ∀ m, m < 512 → ∀ p, p < 9 → nI m ||| ((1 : Int32) <<< (nI p &&& 31)) = nI (m ||| 2 ^ p) ∧ m ||| 2 ^ p < 512 := by decide +kernel
theorem tbb : ∀ m, m < 512 → ∀ p, p < 9 → (nI m >>> (nI p &&& 31)) &&& 1 = if m.testBit p then 1 else 0 := by decide +kernel
theorem lie_kp {f : FA} {g : Nat → Nat} {p : Nat} (hp : p < 9) : KP f (lieF (f, g) p).1 := by
  unfold lieF
  split
  · split
    · exact (KP.up (by omega)).tr (KP.up (by omega))
    · exact KP.rf
  · exact KP.rf
theorem lie_g {f : FA} {g : Nat → Nat} {p : Nat} (hp : p < 9) (hg : ∀ b, g b < 512) : ∀ b, (lieF (f, g) p).2 b < 512 := by
  intro b
  unfold lieF
  split
  · split
    · exact hg b
    · show updN _ _ _ b < 512
      unfold updN
      split
      · exact (orb _ (hg _) p hp).2
      · exact hg b
  · exact hg b
theorem lies_kp {f : FA} : ∀ n, n ≤ 9 → KP f (liesF f n).1 := by
  intro n
  induction n with
  | zero => intro _; exact KP.rf
  | succ n ih => intro hn; exact (ih (by omega)).tr (lie_kp (f := (liesF f n).1) (g := (liesF f n).2) (by omega))
theorem lies_g {f : FA} : ∀ n, n ≤ 9 → ∀ b, (liesF f n).2 b < 512 := by
  intro n
  induction n with
  | zero => intro _ b; exact (by decide : (0 : Nat) < 512)
  | succ n ih => intro hn; exact lie_g (f := (liesF f n).1) (g := (liesF f n).2) (by omega) (ih (by omega))
theorem wakeP_lo {s : Nat} {t g : Int32} {f : FA} {k : Nat} (hk : k < 50 ∨ 86 ≤ k) : ∀ n, n ≤ 9 → wakeP s t g f n k = f k := by
  intro n
  induction n with
  | zero => intro _; rfl
  | succ n ih =>
    intro hn
    unfold wakeP
    split
    · rw [upd_ne (by omega), upd_ne (by omega), upd_ne (by omega)]; exact ih (by omega)
    · exact ih (by omega)
theorem wakeP_kp {s : Nat} {t g : Int32} {f : FA} {n : Nat} (hn : n ≤ 9) : KP f (wakeP s t g f n) := ⟨wakeP_lo (by omega) n hn, wakeP_lo (by omega) n hn, wakeP_lo (by omega) n hn, wakeP_lo (by omega) n hn, wakeP_lo (by omega) n hn, fun k hk => wakeP_lo (by omega) n hn⟩
theorem wakeB_kp {g : Nat → Nat} {f : FA} {b : Nat} (hb : b < 10) (hp : cP f ≤ 9) : KP f (wakeB g f b) := by
  unfold wakeB
  dsimp only
  split
  · exact (((((wakeP_kp hp).tr (KP.up (by omega))).tr (KP.up (by omega))).tr (KP.up (by omega))).tr (KP.up (by omega)))
  · exact (((wakeP_kp hp).tr (KP.up (by omega))).tr (KP.up (by omega)))
theorem wakeF_kp {g : Nat → Nat} {f : FA} (hp : cP f ≤ 9) : ∀ n, n ≤ 10 → KP f (wakeF g f n) := by
  intro n
  induction n with
  | zero => intro _; exact KP.rf
  | succ n ih =>
    intro hn
    have h := ih (by omega)
    exact h.tr (wakeB_kp (by omega) (by rw [h.cp]; exact hp))
theorem draw_kp {f : FA} : KP f (drawF f) := KP.up (Or.inl rfl)
theorem carry_ix {f : FA} (hC : CN f) (h : 0 < f 1) (x : Int32) : ∃ b, b < cB f ∧ irem (ushr8 x) (f 1) = nI b := by
  obtain ⟨m, hm, e⟩ := ushr8_nI x
  rw [e, hC.1, irem_nI (by omega) (by have := hC.2.1; omega)]
  refine ⟨m % cB f, Nat.mod_lt _ ?_, rfl⟩
  refine Nat.pos_of_ne_zero fun z => ?_
  rw [hC.1, z] at h
  exact absurd h (by decide)
theorem carry_kp {f : FA} (hC : CN f) : KP f (carryF f) := by
  unfold carryF
  dsimp only
  split
  · rename_i h
    obtain ⟨b, hb, e⟩ := carry_ix (draw_kp.cn hC) h.2 (drawZ (drawF f))
    have e' : irem (drawV (drawF f)) ((drawF f) 1) = nI b := e
    rw [e']
    have hb9 : b < 10 := by have := (draw_kp.cn hC).2.1; omega
    rw [nI_clamp (by omega)]
    exact (((draw_kp.tr draw_kp).tr draw_kp).tr (KP.up (by omega))).tr (KP.up (by omega))
  · exact draw_kp
/-- what many nights keep -/
def KN (f f' : FA) : Prop := f' 1 = f 1 ∧ f' 3 = f 3 ∧ f' 4 = f 4 ∧ TXE f f'
theorem KN.rf {f : FA} : KN f f := ⟨rfl, rfl, rfl, TXE.rf⟩
theorem KN.tr {f g h : FA} (a : KN f g) (b : KN g h) : KN f h := ⟨b.1.trans a.1, b.2.1.trans a.2.1, b.2.2.1.trans a.2.2.1, a.2.2.2.tr b.2.2.2⟩
theorem KP.kn {f f' : FA} (h : KP f f') : KN f f' := ⟨h.1, h.2.2.1, h.2.2.2.1, h.2.2.2.2⟩
theorem KN.cb {f f' : FA} (h : KN f f') : cB f' = cB f := by unfold cB; rw [h.1]
theorem KN.cp {f f' : FA} (h : KN f f') : cP f' = cP f := by unfold cP; rw [h.2.2.1]
theorem KN.cn {f f' : FA} (h : KN f f') (c : CN f) : CN f' := by
  unfold CN
  rw [h.cb, h.cp, h.2.2.2.ct0, h.1, h.2.2.1, h.2.2.2.1]
  exact c
theorem night_mid {f : FA} (hC : CN f) : KP f (carryF (wakeF (liesF f (cP f)).2 (liesF f (cP f)).1 (cB f))) := by
  have h1 := lies_kp (f := f) (cP f) hC.2.2.2.1
  have h2 := wakeF_kp (g := (liesF f (cP f)).2) (f := (liesF f (cP f)).1) (by rw [h1.cp]; exact hC.2.2.2.1) (cB f) hC.2.1
  exact (h1.tr h2).tr (carry_kp ((h1.tr h2).cn hC))
theorem night_kn {f : FA} (hC : CN f) : KN f (nightF f) := by
  obtain ⟨a, _, b, c, e, d⟩ := night_mid hC
  unfold nightF
  exact ⟨(upd_ne (by decide)).trans a, (upd_ne (by decide)).trans b, (upd_ne (by decide)).trans c, (upd_ne (by decide)).trans e, fun k hk => (upd_ne (by omega)).trans (d k hk)⟩
theorem night_2 {f : FA} (hC : CN f) : (nightF f) 2 = f 2 + 1 := by
  have := (night_mid hC).2.1
  unfold nightF
  rw [upd_at, this]
/-- what nights need: counts, texts, THE NIGHT below K -/
def NM (K : Nat) (f : FA) : Prop := CN f ∧ TXF f ∧ isBd K (f 2)
theorem night_nm {K : Nat} {f : FA} (h : NM K f) : NM (K + 1) (nightF f) := by
  obtain ⟨a, b, j, hj, e⟩ := h
  exact ⟨(night_kn a).cn a, (night_kn a).2.2.2.txf b, j + 1, by omega, by rw [night_2 a, e, nI_succ]⟩
theorem nights_nm {K : Nat} {f : FA} (h : NM K f) : ∀ n, NM (K + n) (nightsF f n) := by
  intro n
  induction n with
  | zero => exact h
  | succ n ih => exact night_nm ih
theorem nights_kn {K : Nat} {f : FA} (h : NM K f) : ∀ n, KN f (nightsF f n) := by
  intro n
  induction n with
  | zero => exact KN.rf
  | succ n ih => exact ih.tr (night_kn (nights_nm h n).1)
theorem NM.pos {K : Nat} {f : FA} (h : NM K f) (hK : K ≤ 100000) : ¬ f 2 < 0 := by
  obtain ⟨_, _, j, hj, e⟩ := h
  rw [e]
  exact nI_pos (by omega)
