-- 51.pure22: ways, as sets of numbers
theorem nI_and (a b : Nat) : nI a &&& nI b = nI (a &&& b) := by
  unfold nI
  apply Int32.toBitVec_inj.mp
  simp [BitVec.ofNat_and]
theorem nI_or (a b : Nat) : nI a ||| nI b = nI (a ||| b) := by
  unfold nI
  apply Int32.toBitVec_inj.mp
  simp [BitVec.ofNat_or]
theorem shl8 : ∀ p, p < 9 → (1 : Int32) <<< (nI p &&& 31) = nI (2 ^ p) := by decide +kernel
theorem low8 : ∀ m, m < 256 → ∀ t, t < 8 → (nI m &&& ((1 : Int32) <<< (nI t &&& 31) - 1) = 0 ↔ ∀ s, s < t → m.testBit s = false) := by decide +kernel
def atN (f : FA) (b : Nat) : Nat := (f (11 + 4 * b)).toNatClampNeg
def ldN (f : FA) (b : Nat) : Nat := if f (10 + 4 * b) = 4 then 2 ^ (f (12 + 4 * b)).toNatClampNeg ||| 2 ^ (f (13 + 4 * b)).toNatClampNeg else 2 ^ (f (12 + 4 * b)).toNatClampNeg
theorem at_nI {f : FA} (h : RG f) {b : Nat} (hb : b < cB f) : f (11 + 4 * b) = nI (atN f b) ∧ atN f b < 8 := by
  obtain ⟨j, hj, e⟩ := (h.1 b hb).1
  unfold atN
  rw [e, nI_clamp (by omega)]
  exact ⟨rfl, hj⟩
theorem ld_nI {f : FA} (h : RG f) {b : Nat} (hb : b < cB f) : leadsI (f (10 + 4 * b)) (f (12 + 4 * b)) (f (13 + 4 * b)) = nI (ldN f b) ∧ ldN f b < 256 := by
  obtain ⟨j, hj, e⟩ := (h.1 b hb).2.1
  obtain ⟨k, hk, e2⟩ := (h.1 b hb).2.2
  unfold leadsI ldN
  rw [e, e2, nI_clamp (by omega), nI_clamp (by omega), shl8 j (by omega), shl8 k (by omega)]
  have p1 : 2 ^ j < 2 ^ 8 := Nat.pow_lt_pow_right (by omega) hj
  have p2 : 2 ^ k < 2 ^ 8 := Nat.pow_lt_pow_right (by omega) hk
  split
  · exact ⟨nI_or _ _, Nat.or_lt_two_pow p1 p2⟩
  · exact ⟨rfl, p1⟩
/-- one bed further from a set, by the first n beds, but for one -/
noncomputable def stF (f : FA) (wo : Int32) (m : Nat) : Nat → Nat
  | 0 => m
  | n + 1 => @ite _ (¬ nI n = wo ∧ m.testBit (atN f n) = true) (Classical.propDecidable _) (stF f wo m n ||| ldN f n) (stF f wo m n)
theorem stF_t {f : FA} {wo : Int32} {m n : Nat} (h : ¬ nI n = wo ∧ m.testBit (atN f n) = true) : stF f wo m (n + 1) = stF f wo m n ||| ldN f n := by
  show @ite Nat (¬ nI n = wo ∧ m.testBit (atN f n) = true) (Classical.propDecidable _) _ _ = _
  rw [if_pos h]
theorem stF_f {f : FA} {wo : Int32} {m n : Nat} (h : ¬ (¬ nI n = wo ∧ m.testBit (atN f n) = true)) : stF f wo m (n + 1) = stF f wo m n := by
  show @ite Nat (¬ nI n = wo ∧ m.testBit (atN f n) = true) (Classical.propDecidable _) _ _ = _
  rw [if_neg h]
theorem stF_bit {f : FA} {wo : Int32} {m x : Nat} : ∀ n, (stF f wo m n).testBit x = true ↔ m.testBit x = true ∨ ∃ b, b < n ∧ ¬ nI b = wo ∧ m.testBit (atN f b) = true ∧ (ldN f b).testBit x = true := by
  intro n
  induction n with
  | zero => exact ⟨Or.inl, fun h => h.elim id fun ⟨b, hb, _⟩ => absurd hb (Nat.not_lt_zero _)⟩
  | succ n ih =>
    by_cases h : ¬ nI n = wo ∧ m.testBit (atN f n) = true
    · rw [stF_t h, Nat.testBit_or, Bool.or_eq_true, ih]
      constructor
      · rintro ((h1 | ⟨b, h1, h2⟩) | h1)
        · exact Or.inl h1
        · exact Or.inr ⟨b, by omega, h2⟩
        · exact Or.inr ⟨n, by omega, h.1, h.2, h1⟩
      · rintro (h1 | ⟨b, h1, h2, h3, h4⟩)
        · exact Or.inl (Or.inl h1)
        · by_cases z : b = n
          · subst z; exact Or.inr h4
          · exact Or.inl (Or.inr ⟨b, by omega, h2, h3, h4⟩)
    · rw [stF_f h, ih]
      constructor
      · rintro (h1 | ⟨b, h1, h2⟩)
        · exact Or.inl h1
        · exact Or.inr ⟨b, by omega, h2⟩
      · rintro (h1 | ⟨b, h1, h2, h3, h4⟩)
        · exact Or.inl h1
        · by_cases z : b = n
          · subst z; exact absurd ⟨h2, h3⟩ h
          · exact Or.inr ⟨b, by omega, h2, h3, h4⟩
theorem stF_lt {f : FA} (h : RG f) {wo : Int32} {m : Nat} (hm : m < 256) : ∀ n, n ≤ cB f → stF f wo m n < 256 := by
  intro n
  induction n with
  | zero => intro _; exact hm
  | succ n ih =>
    intro hn
    by_cases z : ¬ nI n = wo ∧ m.testBit (atN f n) = true
    · rw [stF_t z]
      exact Nat.or_lt_two_pow (n := 8) (ih (by omega)) (ld_nI h (by omega)).2
    · rw [stF_f z]
      exact ih (by omega)
noncomputable def st1 (f : FA) (wo : Int32) (m : Nat) : Nat := stF f wo m (cB f)
noncomputable def itF (f : FA) (wo : Int32) (m : Nat) : Nat → Nat
  | 0 => m
  | n + 1 => st1 f wo (itF f wo m n)
theorem itF_lt {f : FA} (h : RG f) {wo : Int32} {m : Nat} (hm : m < 256) : ∀ n, itF f wo m n < 256 := by
  intro n
  induction n with
  | zero => exact hm
  | succ n ih => exact stF_lt h ih _ (Nat.le_refl _)
/-- one set within another -/
def Sb (a b : Nat) : Prop := ∀ x, a.testBit x = true → b.testBit x = true
theorem st1_in {f : FA} {wo : Int32} {m : Nat} : Sb m (st1 f wo m) := fun x h => (stF_bit _).mpr (Or.inl h)
theorem st1_mono {f : FA} {wo : Int32} {a b : Nat} (h : Sb a b) : Sb (st1 f wo a) (st1 f wo b) := fun x hx => by
  rcases (stF_bit _).mp hx with z | ⟨c, c1, c2, c3, c4⟩
  · exact (stF_bit _).mpr (Or.inl (h x z))
  · exact (stF_bit _).mpr (Or.inr ⟨c, c1, c2, h _ c3, c4⟩)
theorem Sb.eq {a b : Nat} (h : Sb a b) (h' : Sb b a) : a = b := Nat.eq_of_testBit_eq fun i => by
  cases e : a.testBit i
  · cases e2 : b.testBit i
    · rfl
    · rw [h' i e2] at e; exact absurd e (by decide)
  · exact (h i e).symm
theorem pcnt_mono {a b : Nat} (h : Sb a b) : ∀ n, pcnt n a ≤ pcnt n b := by
  intro n
  induction n with
  | zero => exact Nat.le_refl _
  | succ n ih =>
    unfold pcnt
    by_cases z : a.testBit n = true
    · rw [if_pos z, if_pos (h n z)]; omega
    · rw [if_neg z]; omega
theorem pcnt_strict {a b x : Nat} (h : Sb a b) (h1 : ¬ a.testBit x = true) (h2 : b.testBit x = true) : ∀ n, x < n → pcnt n a < pcnt n b := by
  intro n
  induction n with
  | zero => intro hx; exact absurd hx (Nat.not_lt_zero _)
  | succ n ih =>
    intro hx
    unfold pcnt
    by_cases z : x = n
    · subst z
      rw [if_neg h1, if_pos h2]
      have := pcnt_mono h x
      omega
    · have := ih (by omega)
      by_cases y : a.testBit n = true
      · rw [if_pos y, if_pos (h n y)]; omega
      · rw [if_neg y]; omega
theorem pcnt_full {a : Nat} : ∀ n, pcnt n a = n → ∀ x, x < n → a.testBit x = true := by
  intro n
  induction n with
  | zero => intro _ x hx; exact absurd hx (Nat.not_lt_zero _)
  | succ n ih =>
    intro h x hx
    unfold pcnt at h
    have hl := pcnt_le n a
    by_cases y : a.testBit n = true
    · rw [if_pos y] at h
      by_cases z : x = n
      · subst z; exact y
      · exact ih (by omega) x (by omega)
    · rw [if_neg y] at h
      omega
theorem lt256_bit {a x : Nat} (h : a < 256) (hx : a.testBit x = true) : x < 8 := Nat.lt_of_not_le fun z => by
  rw [Nat.testBit_lt_two_pow (Nat.lt_of_lt_of_le h (show 256 ≤ 2 ^ x from Nat.pow_le_pow_right (n := 2) (by omega) z))] at hx
  exact absurd hx (by decide)
theorem it_chain {f : FA} (h : RG f) {wo : Int32} {m : Nat} (hm : m < 256) (h1 : 1 ≤ pcnt 8 m) : ∀ n, itF f wo m (n + 1) = itF f wo m n ∨ n + 2 ≤ pcnt 8 (itF f wo m (n + 1)) := by
  intro n
  induction n with
  | zero =>
    by_cases z : itF f wo m 1 = itF f wo m 0
    · exact Or.inl z
    · right
      obtain ⟨x, hx1, hx2⟩ : ∃ x, ¬ m.testBit x = true ∧ (itF f wo m 1).testBit x = true := Classical.byContradiction fun c => z (Sb.eq (fun x hx => Classical.byContradiction fun y => c ⟨x, y, hx⟩) st1_in)
      have := pcnt_strict (st1_in (f := f) (wo := wo) (m := m)) hx1 hx2 8 (lt256_bit (itF_lt h hm 1) hx2)
      have e : itF f wo m 1 = st1 f wo m := rfl
      rw [show (0 + 1 : Nat) = 1 from rfl, e]
      omega
  | succ n ih =>
    by_cases z : itF f wo m (n + 1 + 1) = itF f wo m (n + 1)
    · exact Or.inl z
    · right
      rcases ih with y | y
      · exact absurd (congrArg (st1 f wo) y) z
      · obtain ⟨x, hx1, hx2⟩ : ∃ x, ¬ (itF f wo m (n + 1)).testBit x = true ∧ (itF f wo m (n + 1 + 1)).testBit x = true := Classical.byContradiction fun c => z (Sb.eq (fun x hx => Classical.byContradiction fun y => c ⟨x, y, hx⟩) st1_in)
        have := pcnt_strict (st1_in (f := f) (wo := wo) (m := itF f wo m (n + 1))) hx1 hx2 8 (lt256_bit (itF_lt h hm (n + 1 + 1)) hx2)
        have e : itF f wo m (n + 1 + 1) = st1 f wo (itF f wo m (n + 1)) := rfl
        rw [e]
        omega
theorem it_fix {f : FA} (h : RG f) {wo : Int32} {m : Nat} (hm : m < 256) (h1 : 1 ≤ pcnt 8 m) : st1 f wo (itF f wo m 7) = itF f wo m 7 := by
  rcases it_chain h (wo := wo) hm h1 6 with z | z
  · show st1 f wo (itF f wo m (6 + 1)) = itF f wo m (6 + 1)
    exact congrArg (st1 f wo) z |>.trans rfl |> fun e => by rw [z] at e ⊢; exact z
  · have hf := pcnt_full (a := itF f wo m 7) 8 (by have := pcnt_le 8 (itF f wo m 7); exact Nat.le_antisymm this z)
    refine (Sb.eq st1_in ?_).symm
    intro x hx
    exact hf x (lt256_bit (itF_lt h hm 8) hx)
theorem pc_pow : ∀ t, t < 8 → 1 ≤ pcnt 8 (2 ^ t) ∧ 2 ^ t < 256 := by decide
noncomputable def RR (f : FA) (wo : Int32) (t : Nat) : Nat := itF f wo (2 ^ t) 7
theorem RR_lt {f : FA} (h : RG f) {wo : Int32} {t : Nat} (ht : t < 8) : RR f wo t < 256 := itF_lt h (pc_pow t ht).2 7
theorem RR_fix {f : FA} (h : RG f) {wo : Int32} {t : Nat} (ht : t < 8) : st1 f wo (RR f wo t) = RR f wo t := it_fix h (pc_pow t ht).2 (pc_pow t ht).1
theorem RR_8 {f : FA} (h : RG f) {wo : Int32} {t : Nat} (ht : t < 8) : itF f wo (2 ^ t) 8 = RR f wo t := RR_fix h ht
theorem it_in {f : FA} {wo : Int32} {m : Nat} : ∀ n, Sb m (itF f wo m n) := by
  intro n
  induction n with
  | zero => exact fun _ h => h
  | succ n ih => exact fun x h => st1_in x (ih x h)
theorem RR_self {f : FA} {wo : Int32} {t : Nat} : (RR f wo t).testBit t = true := it_in 7 t (by rw [Nat.testBit_two_pow]; simp)
theorem RR_tr {f : FA} (h : RG f) {wo : Int32} {t s : Nat} (ht : t < 8) (hs : (RR f wo t).testBit s = true) : Sb (RR f wo s) (RR f wo t) := by
  have : ∀ n, Sb (itF f wo (2 ^ s) n) (RR f wo t) := by
    intro n
    induction n with
    | zero =>
      intro x hx
      change (2 ^ s).testBit x = true at hx
      rw [Nat.testBit_two_pow] at hx
      rw [← of_decide_eq_true hx]
      exact hs
    | succ n ih =>
      intro x hx
      have := st1_mono (f := f) (wo := wo) ih x hx
      rw [RR_fix h ht] at this
      exact this
  exact this 7
