-- 52.pure23: questions: reach, way, missed, lacks
theorem tb2 {m p : Nat} (hm : m < 256) (hp : p < 8) : (nI m >>> (nI p &&& 31)) &&& 1 = if m.testBit p then 1 else 0 := tbb m (by omega) p (by omega)
/-- what leads from a town, by the first n beds -/
noncomputable def ldS (f : FA) (wo : Int32) (t : Nat) : Nat → Nat
  | 0 => 0
  | n + 1 => @ite Nat (¬ nI n = wo ∧ atN f n = t) (Classical.propDecidable _) (ldS f wo t n ||| ldN f n) (ldS f wo t n)
theorem ldS_t {f : FA} {wo : Int32} {t n : Nat} (h : ¬ nI n = wo ∧ atN f n = t) : ldS f wo t (n + 1) = ldS f wo t n ||| ldN f n := by
  show @ite Nat (¬ nI n = wo ∧ atN f n = t) (Classical.propDecidable _) _ _ = _
  rw [if_pos h]
theorem ldS_f {f : FA} {wo : Int32} {t n : Nat} (h : ¬ (¬ nI n = wo ∧ atN f n = t)) : ldS f wo t (n + 1) = ldS f wo t n := by
  show @ite Nat (¬ nI n = wo ∧ atN f n = t) (Classical.propDecidable _) _ _ = _
  rw [if_neg h]
theorem ldS_bit {f : FA} {wo : Int32} {t x : Nat} : ∀ n, (ldS f wo t n).testBit x = true ↔ ∃ b, b < n ∧ ¬ nI b = wo ∧ atN f b = t ∧ (ldN f b).testBit x = true := by
  intro n
  induction n with
  | zero => exact ⟨fun h => absurd (show (0 : Nat).testBit x = true from h) (by simp), fun ⟨b, hb, _⟩ => absurd hb (Nat.not_lt_zero _)⟩
  | succ n ih =>
    by_cases h : ¬ nI n = wo ∧ atN f n = t
    · rw [ldS_t h, Nat.testBit_or, Bool.or_eq_true, ih]
      constructor
      · rintro (⟨b, h1, h2⟩ | h1)
        · exact ⟨b, by omega, h2⟩
        · exact ⟨n, by omega, h.1, h.2, h1⟩
      · rintro ⟨b, h1, h2, h3, h4⟩
        by_cases z : b = n
        · subst z; exact Or.inr h4
        · exact Or.inl ⟨b, by omega, h2, h3, h4⟩
    · rw [ldS_f h, ih]
      constructor
      · rintro ⟨b, h1, h2⟩
        exact ⟨b, by omega, h2⟩
      · rintro ⟨b, h1, h2, h3, h4⟩
        by_cases z : b = n
        · subst z; exact absurd ⟨h2, h3⟩ h
        · exact ⟨b, by omega, h2, h3, h4⟩
theorem ldS_lt {f : FA} (h : RG f) {wo : Int32} {t : Nat} : ∀ n, n ≤ cB f → ldS f wo t n < 256 := by
  intro n
  induction n with
  | zero => intro _; exact (by decide : (0 : Nat) < 256)
  | succ n ih =>
    intro hn
    by_cases z : ¬ nI n = wo ∧ atN f n = t
    · rw [ldS_t z]
      exact Nat.or_lt_two_pow (n := 8) (ih (by omega)) (ld_nI h (by omega)).2
    · rw [ldS_f z]
      exact ih (by omega)
def onF (L : Nat → Nat) (m : Nat) : Nat → Nat
  | 0 => m
  | t + 1 => if m.testBit t = true then onF L m t ||| L t else onF L m t
theorem onF_bit {L : Nat → Nat} {m x : Nat} : ∀ n, (onF L m n).testBit x = true ↔ m.testBit x = true ∨ ∃ t, t < n ∧ m.testBit t = true ∧ (L t).testBit x = true := by
  intro n
  induction n with
  | zero => exact ⟨Or.inl, fun h => h.elim id fun ⟨b, hb, _⟩ => absurd hb (Nat.not_lt_zero _)⟩
  | succ n ih =>
    unfold onF
    by_cases h : m.testBit n = true
    · rw [if_pos h, Nat.testBit_or, Bool.or_eq_true, ih]
      constructor
      · rintro ((h1 | ⟨b, h1, h2⟩) | h1)
        · exact Or.inl h1
        · exact Or.inr ⟨b, by omega, h2⟩
        · exact Or.inr ⟨n, by omega, h, h1⟩
      · rintro (h1 | ⟨b, h1, h2, h3⟩)
        · exact Or.inl (Or.inl h1)
        · by_cases z : b = n
          · subst z; exact Or.inr h3
          · exact Or.inl (Or.inr ⟨b, by omega, h2, h3⟩)
    · rw [if_neg h, ih]
      constructor
      · rintro (h1 | ⟨b, h1, h2⟩)
        · exact Or.inl h1
        · exact Or.inr ⟨b, by omega, h2⟩
      · rintro (h1 | ⟨b, h1, h2, h3⟩)
        · exact Or.inl h1
        · by_cases z : b = n
          · subst z; exact absurd h2 h
          · exact Or.inr ⟨b, by omega, h2, h3⟩
theorem onF_lt {L : Nat → Nat} {m : Nat} (hm : m < 256) (hL : ∀ t, t < 8 → L t < 256) : ∀ n, n ≤ 8 → onF L m n < 256 := by
  intro n
  induction n with
  | zero => intro _; exact hm
  | succ n ih =>
    intro hn
    unfold onF
    split
    · exact Nat.or_lt_two_pow (n := 8) (ih (by omega)) (hL n (by omega))
    · exact ih (by omega)
theorem onF_st {f : FA} (h : RG f) {wo : Int32} {m : Nat} : onF (fun t => ldS f wo t (cB f)) m 8 = st1 f wo m := by
  refine Sb.eq (fun x hx => ?_) (fun x hx => ?_)
  · rcases (onF_bit 8).mp hx with z | ⟨t, h1, h2, h3⟩
    · exact (stF_bit _).mpr (Or.inl z)
    · obtain ⟨b, b1, b2, b3, b4⟩ := (ldS_bit _).mp h3
      exact (stF_bit _).mpr (Or.inr ⟨b, b1, b2, by rw [b3]; exact h2, b4⟩)
  · rcases (stF_bit _).mp hx with z | ⟨b, b1, b2, b3, b4⟩
    · exact (onF_bit 8).mpr (Or.inl z)
    · exact (onF_bit 8).mpr (Or.inr ⟨atN f b, (at_nI h b1).2, b3, (ldS_bit _).mpr ⟨b, b1, b2, rfl, b4⟩⟩)
section W23
variable {d l b p K : Nat} {M : Mem} {Q : PQ} {f : FA} {wo : Int32}
theorem sp_oneFurther {m : Nat} (hd : 2 ≤ d) (hL : LL M 0 f) (hR : RG f) (hm : m < 256) (hQ : Q (some (.inl (nI (st1 f wo m)))) M) : Td PR d 60 [.inr (13, 0, 0), .inl (nI m), .inl wo] M Q := by
  have hb10 := hL.b10
  obtain ⟨e, rfl⟩ : ∃ e, d = e + 1 := ⟨d - 1, by omega⟩
  refine td_X8_oneFurther ?_
  intro S hS
  iterate 4 refine hS _ _ _ _ ?_
  refine lp_up (T := fun i => S 5 [some (.inr (13, 0, 0)), some (.inl (nI m)), some (.inl wo), some (.inl (nI (stF f wo m i))), some (.inl (nI i))] [] M) (N := cB f) ?_ ?_ 0 (Nat.zero_le _)
  · iterate 5 refine hS _ _ _ _ ?_
    refine And.intro (fun h14 => ?_) (fun h14 => ?_)
    · iterate 2 refine hS _ _ _ _ ?_
      exact hQ
    · exact (lp_x hL.bc h14).elim
  · intro i hi ih
    rw [nI_succ] at ih
    obtain ⟨e1, a8⟩ := at_nI hR hi
    have e2 := ld_nI hR hi
    have ea := (hL.at hi).trans e1
    have tb := tb2 hm a8
    iterate 5 refine hS _ _ _ _ ?_
    refine And.intro (fun h14 => ?_) (fun h14 => ?_)
    · exact (lp_s hL.bc hi (by omega) h14).elim
    · iterate 3 refine hS _ _ _ _ ?_
      refine And.intro (fun h20 => ?_) (fun h20 => ?_)
      · iterate 2 refine hS _ _ _ _ ?_
        rw [stF_f (fun z => z.1 h20)] at ih
        exact ih
      · iterate 6 refine hS _ _ _ _ ?_
        refine ⟨(by first | assumption | exact vp_in_nI (by simp only [alen]; omega) (by decide)), ?_⟩
        try rw [nI_clamp (by omega)]
        iterate 5 refine hS _ _ _ _ ?_
        refine And.intro (fun h40 => ?_) (fun h40 => ?_)
        · rw [show M 3 0 i 1 = _ from ea, tb] at h40
          have hz : ¬ m.testBit (atN f i) = true := fun z => absurd h40 (by rw [if_pos z]; decide)
          iterate 2 refine hS _ _ _ _ ?_
          rw [stF_f (fun z => hz z.2)] at ih
          exact ih
        · rw [show M 3 0 i 1 = _ from ea, tb] at h40
          have hz : m.testBit (atN f i) = true := Classical.byContradiction fun z => h40 (by rw [if_neg z])
          iterate 6 refine hS _ _ _ _ ?_
          refine ⟨(by first | assumption | exact vp_in_nI (by simp only [alen]; omega) (by decide)), ?_⟩
          try rw [nI_clamp (by omega)]
          refine hS _ _ _ _ ?_
          refine sp_leads (by omega) ?_
          rw [hL.kind hi, hL.to hi, hL.other hi, e2.1]
          iterate 4 refine hS _ _ _ _ ?_
          rw [stF_t ⟨h20, hz⟩, ← nI_or] at ih
          exact ih
theorem sp_reachOf {t : Nat} (hd : 3 ≤ d) (hL : LL M 0 f) (hR : RG f) (ht : t < 8) (hQ : Q (some (.inl (nI (RR f wo t)))) M) : Td PR d 61 [.inr (13, 0, 0), .inl (nI t), .inl wo] M Q := by
  have h2 := pc_pow t ht
  obtain ⟨e, rfl⟩ : ∃ e, d = e + 1 := ⟨d - 1, by omega⟩
  refine td_X8_reachOf ?_
  intro S hS
  have lp : ∀ j, j ≤ 7 → S 7 [some (.inr (13, 0, 0)), some (.inl (nI t)), some (.inl wo), some (.inl (nI (itF f wo (2 ^ t) j))), some (.inl (nI (j + 1)))] [] M := by
    refine lp_up (N := 7) ?_ ?_
    · iterate 3 refine hS _ _ _ _ ?_
      refine And.intro (fun h11 => ?_) (fun h11 => ?_)
      · iterate 2 refine hS _ _ _ _ ?_
        exact hQ
      · exact (lp_x (n := 8) rfl h11).elim
    · intro i hi ih
      rw [nI_succ (i + 1)] at ih
      iterate 3 refine hS _ _ _ _ ?_
      refine And.intro (fun h11 => ?_) (fun h11 => ?_)
      · exact (lp_s (n := 8) rfl (by omega) (by omega) h11).elim
      · iterate 4 refine hS _ _ _ _ ?_
        refine sp_oneFurther (by omega) hL hR (itF_lt hR h2.2 i) ?_
        iterate 3 refine hS _ _ _ _ ?_
        exact ih
  iterate 6 refine hS _ _ _ _ ?_
  have : S 7 [some (.inr (13, 0, 0)), some (.inl (nI t)), some (.inl wo), some (.inl (nI (2 ^ t))), some (.inl 1)] [] M := lp 0 (by omega)
  rw [← shl8 t (by omega)] at this
  exact this
/-- the first step with which a town is there, from k on, n times -/
noncomputable def wyF (f : FA) (a b : Nat) : Nat → Nat → Int32
  | _, 0 => -1
  | k, n + 1 => if (itF f (-1) (2 ^ a) k).testBit b = true then nI k else wyF f a b (k + 1) n
theorem wyF_s {f : FA} {a b k n : Nat} : wyF f a b k (n + 1) = if (itF f (-1) (2 ^ a) k).testBit b = true then nI k else wyF f a b (k + 1) n := rfl
theorem sp_steps {a b : Nat} (hd : 3 ≤ d) (hL : LL M 0 f) (hR : RG f) (ha : a < 8) (hb : b < 8) (hQ : Q (some (.inl (wyF f a b 0 8))) M) : Td PR d 62 [.inr (13, 0, 0), .inl (nI a), .inl (nI b)] M Q := by
  have h2 := pc_pow a ha
  generalize hV : wyF f a b 0 8 = W at hQ
  obtain ⟨e, rfl⟩ : ∃ e, d = e + 1 := ⟨d - 1, by omega⟩
  refine td_X8_steps ?_
  intro S hS
  have lp : ∀ j, j ≤ 8 → wyF f a b j (8 - j) = W → S 7 [some (.inr (13, 0, 0)), some (.inl (nI a)), some (.inl (nI b)), some (.inl (nI (itF f (-1) (2 ^ a) j))), some (.inl (nI j))] [] M := by
    refine lp_up (N := 8) ?_ ?_
    · intro hV
      iterate 3 refine hS _ _ _ _ ?_
      refine And.intro (fun h11 => ?_) (fun h11 => ?_)
      · iterate 2 refine hS _ _ _ _ ?_
        exact qv hQ hV.symm
      · exact (lp_x (n := 8) rfl h11).elim
    · intro i hi ih hV
      rw [show 8 - i = (8 - (i + 1)) + 1 by omega, wyF_s] at hV
      have tb := tb2 (itF_lt hR h2.2 i (wo := -1)) hb
      iterate 3 refine hS _ _ _ _ ?_
      refine And.intro (fun h11 => ?_) (fun h11 => ?_)
      · exact (lp_s (n := 8) rfl hi (by omega) h11).elim
      · iterate 6 refine hS _ _ _ _ ?_
        refine And.intro (fun h19 => ?_) (fun h19 => ?_)
        · rw [tb] at h19
          have hz : ¬ (itF f (-1) (2 ^ a) i).testBit b = true := fun z => absurd h19 (by rw [if_pos z]; decide)
          rw [if_neg hz] at hV
          iterate 4 refine hS _ _ _ _ ?_
          refine sp_oneFurther (by omega) hL hR (itF_lt hR h2.2 i) ?_
          iterate 3 refine hS _ _ _ _ ?_
          have := ih hV
          rw [nI_succ] at this
          exact this
        · rw [tb] at h19
          have hz : (itF f (-1) (2 ^ a) i).testBit b = true := Classical.byContradiction fun z => h19 (by rw [if_neg z])
          rw [if_pos hz] at hV
          iterate 2 refine hS _ _ _ _ ?_
          exact qv hQ hV.symm
  iterate 6 refine hS _ _ _ _ ?_
  have : S 7 [some (.inr (13, 0, 0)), some (.inl (nI a)), some (.inl (nI b)), some (.inl (nI (2 ^ a))), some (.inl 0)] [] M := lp 0 (by omega) hV
  rw [← shl8 a (by omega)] at this
  exact this
noncomputable def smF (f : FA) (wo : Int32) : Nat → Nat
  | 0 => 0
  | n + 1 => smF f wo n + pcnt 9 (RR f wo n)
theorem smF_le {f : FA} {wo : Int32} : ∀ n, smF f wo n ≤ 9 * n := by
  intro n
  induction n with
  | zero => exact Nat.le_refl _
  | succ n ih =>
    unfold smF
    have := pcnt_le 9 (RR f wo n)
    omega
theorem sp_reachedWithout (hd : 4 ≤ d) (hL : LL M 0 f) (hR : RG f) (hQ : Q (some (.inl (nI (smF f wo 8)))) M) : Td PR d 63 [.inr (13, 0, 0), .inl wo] M Q := by
  obtain ⟨e, rfl⟩ : ∃ e, d = e + 1 := ⟨d - 1, by omega⟩
  refine td_X8_reachedWithout ?_
  intro S hS
  iterate 4 refine hS _ _ _ _ ?_
  refine lp_up (T := fun i => S 4 [some (.inr (13, 0, 0)), some (.inl wo), some (.inl (nI (smF f wo i))), some (.inl (nI i))] [] M) (N := 8) ?_ ?_ 0 (Nat.zero_le _)
  · iterate 3 refine hS _ _ _ _ ?_
    refine And.intro (fun h7 => ?_) (fun h7 => ?_)
    · iterate 2 refine hS _ _ _ _ ?_
      exact hQ
    · exact (lp_x (n := 8) rfl h7).elim
  · intro i hi ih
    rw [nI_succ, show smF f wo (i + 1) = smF f wo i + pcnt 9 (RR f wo i) from rfl, ← nI_add] at ih
    have hlt := RR_lt hR (wo := wo) hi
    iterate 3 refine hS _ _ _ _ ?_
    refine And.intro (fun h7 => ?_) (fun h7 => ?_)
    · exact (lp_s (n := 8) rfl hi (by omega) h7).elim
    · iterate 5 refine hS _ _ _ _ ?_
      refine sp_reachOf (by omega) hL hR hi ?_
      refine hS _ _ _ _ ?_
      refine sp_bitCount (by omega) (by omega) ?_
      iterate 4 refine hS _ _ _ _ ?_
      exact ih
/-- the reference's ways -/
def Fw (M M' : Mem) : Prop := ∀ k, k ≠ 36 → k ≠ 37 → M' k = M k
theorem Fw.sc {M M' : Mem} (h : Fw M M') : FrS M M' := ⟨by rw [h 31 (by decide) (by decide)], fun k i z => by rw [h k (fun e => z (by unfold Sc; omega)) (fun e => z (by unfold Sc; omega))]⟩
theorem sm_onward {m : Nat} (hd : 1 ≤ d) (hR : RG f) (hm : m < 256) (h36 : ∀ t, t < 8 → M 36 0 0 t = nI (ldS f wo t (cB f))) (hQ : Q (some (.inl (nI (st1 f wo m)))) M) : Td PR d 164 [.inr (30, 0, 0), .inl (nI m)] M Q := by
  rw [← onF_st hR] at hQ
  obtain ⟨e, rfl⟩ : ∃ e, d = e + 1 := ⟨d - 1, by omega⟩
  refine td_X10_onward ?_
  intro S hS
  iterate 4 refine hS _ _ _ _ ?_
  refine lp_up (T := fun i => S 4 [some (.inr (30, 0, 0)), some (.inl (nI m)), some (.inl (nI (onF (fun t => ldS f wo t (cB f)) m i))), some (.inl (nI i))] [] M) (N := 8) ?_ ?_ 0 (Nat.zero_le _)
  · iterate 3 refine hS _ _ _ _ ?_
    refine And.intro (fun h7 => ?_) (fun h7 => ?_)
    · iterate 2 refine hS _ _ _ _ ?_
      exact hQ
    · exact (lp_x (n := 8) rfl h7).elim
  · intro i hi ih
    have tb := tb2 hm hi
    rw [nI_succ] at ih
    unfold onF at ih
    iterate 3 refine hS _ _ _ _ ?_
    refine And.intro (fun h7 => ?_) (fun h7 => ?_)
    · exact (lp_s (n := 8) rfl hi (by omega) h7).elim
    · iterate 8 refine hS _ _ _ _ ?_
      refine And.intro (fun h17 => ?_) (fun h17 => ?_)
      · rw [tb] at h17
        have hz : ¬ m.testBit i = true := fun z => h17 (by rw [if_pos z])
        rw [if_neg hz] at ih
        iterate 5 refine hS _ _ _ _ ?_
        refine slv ih ?_
        rw [show ∀ x : Int32, x ||| 0 = x from fun x => Int32.or_zero]; rfl
      · rw [tb] at h17
        have hz : m.testBit i = true := Classical.byContradiction fun z => absurd h17 (by rw [if_neg z]; decide)
        rw [if_pos hz] at ih
        iterate 4 refine hS _ _ _ _ ?_
        refine ⟨(by first | assumption | exact vp_in_nI (by simp only [alen]; omega) (by decide)), ?_⟩
        try rw [nI_clamp (by omega)]
        iterate 5 refine hS _ _ _ _ ?_
        rw [← nI_or, ← h36 i hi] at ih
        exact ih
theorem sm_looksAround (hd : 4 ≤ d) (hC : CN (M 31 0 0)) (hR : RG (M 31 0 0)) (hQ : ∀ M', Fw M M' → (∀ t, t < 8 → M' 36 0 0 t = nI (ldS (M 31 0 0) wo t (cB (M 31 0 0)))) → (∀ t, t < 8 → M' 37 0 0 t = nI (RR (M 31 0 0) wo t)) → Q none M') : Td PR d 163 [.inr (30, 0, 0), .inl wo] M Q := by
  have hb10 := hC.2.1
  have e31 : ∀ M', Fw M M' → M' 31 = M 31 := fun M' h => h 31 (by decide) (by decide)
  generalize hf : M 31 0 0 = f at *
  obtain ⟨e, rfl⟩ : ∃ e, d = e + 1 := ⟨d - 1, by omega⟩
  refine td_X10_looksAround ?_
  intro S hS
  have l3 : ∀ M', Fw M M' → (∀ t, t < 8 → M' 36 0 0 t = nI (ldS f wo t (cB f))) → (∀ t, t < 8 → M' 37 0 0 t = nI (2 ^ t)) → ∀ o, S 78 [some (.inr (30, 0, 0)), some (.inl wo), some (.inl 0), o] [] M' := by
    intro M' a1 a2 a3 o
    refine lp_up (T := fun k => ∀ o M', Fw M M' → (∀ t, t < 8 → M' 36 0 0 t = nI (ldS f wo t (cB f))) → (∀ t, t < 8 → M' 37 0 0 t = nI (itF f wo (2 ^ t) k)) → S 78 [some (.inr (30, 0, 0)), some (.inl wo), some (.inl (nI k)), o] [] M') (N := 8) ?_ ?_ 0 (Nat.zero_le _) o M' a1 a2 a3
    · intro o M' a1 a2 a3
      iterate 3 refine hS _ _ _ _ ?_
      refine And.intro (fun h81 => ?_) (fun h81 => ?_)
      · refine hS _ _ _ _ ?_
        exact hQ M' a1 a2 (fun t ht => by rw [a3 t ht, RR_8 hR ht])
      · exact (lp_x (n := 8) rfl h81).elim
    · intro k hk ih o M' a1 a2 a3
      have inn : S 86 [some (.inr (30, 0, 0)), some (.inl wo), some (.inl (nI k)), some (.inl (nI 0))] [] M' := by
        refine lp_up (T := fun q => ∀ M', Fw M M' → (∀ t, t < 8 → M' 36 0 0 t = nI (ldS f wo t (cB f))) → (∀ t, t < 8 → M' 37 0 0 t = nI (itF f wo (2 ^ t) (if t < q then k + 1 else k))) → S 86 [some (.inr (30, 0, 0)), some (.inl wo), some (.inl (nI k)), some (.inl (nI q))] [] M') (N := 8) ?_ ?_ 0 (Nat.zero_le _) M' a1 a2 (fun t ht => by rw [if_neg (by omega)]; exact a3 t ht)
        · intro M' a1 a2 a3
          iterate 3 refine hS _ _ _ _ ?_
          refine And.intro (fun h89 => ?_) (fun h89 => ?_)
          · iterate 2 refine hS _ _ _ _ ?_
            rw [nI_succ] at ih
            exact ih _ M' a1 a2 (fun t ht => by have := a3 t ht; rw [if_pos ht] at this; exact this)
          · exact (lp_x (n := 8) rfl h89).elim
        · intro q hq ihq M' a1 a2 a3
          have e37 := a3 q hq
          rw [if_neg (by omega)] at e37
          have hlt := itF_lt hR (wo := wo) (pc_pow q hq).2 k
          iterate 3 refine hS _ _ _ _ ?_
          refine And.intro (fun h89 => ?_) (fun h89 => ?_)
          · exact (lp_s (n := 8) rfl hq (by omega) h89).elim
          · iterate 8 refine hS _ _ _ _ ?_
            refine ⟨(by first | assumption | exact vp_in_nI (by simp only [alen]; omega) (by decide)), ?_⟩
            rw [nI_clamp (by omega), e37]
            refine hS _ _ _ _ ?_
            refine sm_onward (by omega) hR hlt a2 ?_
            refine hS _ _ _ _ ?_
            refine ⟨(by first | assumption | exact vp_in_nI (by simp only [alen]; omega) (by decide)), ?_⟩
            try rw [nI_clamp (by omega)]
            iterate 2 refine hS _ _ _ _ ?_
            have := ihq (mu M' 37 0 0 q (nI (st1 f wo (itF f wo (2 ^ q) k)))) (fun k a b => (mz_k b).trans (a1 k a b)) a2 (fun t ht => by
              by_cases z : t = q
              · subst z; rw [mz_at, if_pos (by omega)]; rfl
              · rw [upd_mu, upd_ne z, a3 t ht]
                by_cases y : t < q
                · rw [if_pos y, if_pos (by omega)]
                · rw [if_neg y, if_neg (by omega)])
            rw [nI_succ] at this
            exact this
      iterate 3 refine hS _ _ _ _ ?_
      refine And.intro (fun h81 => ?_) (fun h81 => ?_)
      · exact (lp_s (n := 8) rfl hk (by omega) h81).elim
      · iterate 2 refine hS _ _ _ _ ?_
        exact inn
  have l2 : ∀ M', Fw M M' → (∀ t, t < 8 → M' 36 0 0 t = 0) → (∀ t, t < 8 → M' 37 0 0 t = nI (2 ^ t)) → S 32 [some (.inr (30, 0, 0)), some (.inl wo), some (.inl 0), none] [] M' := by
    intro M' a1 a2 a3
    refine lp_up (T := fun i => ∀ M', Fw M M' → (∀ t, t < 8 → M' 36 0 0 t = nI (ldS f wo t i)) → (∀ t, t < 8 → M' 37 0 0 t = nI (2 ^ t)) → S 32 [some (.inr (30, 0, 0)), some (.inl wo), some (.inl (nI i)), none] [] M') (N := cB f) ?_ ?_ 0 (Nat.zero_le _) M' a1 a2 a3
    · intro M' a1 a2 a3
      have e1 : M' 31 0 0 1 = nI (cB f) := by rw [e31 M' a1, hf]; exact hC.1
      iterate 5 refine hS _ _ _ _ ?_
      refine ⟨vp_l rfl, ?_⟩
      try rw [show Int32.toNatClampNeg 1 = 1 from rfl]
      refine hS _ _ _ _ ?_
      refine And.intro (fun h39 => ?_) (fun h39 => ?_)
      · iterate 2 refine hS _ _ _ _ ?_
        exact l3 M' a1 a2 a3 _
      · exact (lp_x e1 h39).elim
    · intro i hi ih M' a1 a2 a3
      have e1 : M' 31 0 0 1 = nI (cB f) := by rw [e31 M' a1, hf]; exact hC.1
      have ef : M' 31 0 0 = f := by rw [e31 M' a1, hf]
      obtain ⟨ea, a8⟩ := at_nI hR hi
      have el := ld_nI hR hi
      have e36 := a2 (atN f i) a8
      have go : ∀ v, v = nI (ldS f wo (atN f i) (i + 1)) → S 32 [some (.inr (30, 0, 0)), some (.inl wo), some (.inl (nI i + 1)), none] [] (mu M' 36 0 0 (atN f i) v) := by
        intro v hv
        have := ih (mu M' 36 0 0 (atN f i) v) (fun k a b => (mz_k a).trans (a1 k a b)) (fun t ht => by
          by_cases z : t = atN f i
          · subst z; rw [mz_at]; exact hv
          · rw [upd_mu, upd_ne z, a2 t ht, ldS_f (fun y => z y.2.symm)]) a3
        rw [nI_succ] at this
        exact this
      iterate 5 refine hS _ _ _ _ ?_
      refine ⟨vp_l rfl, ?_⟩
      try rw [show Int32.toNatClampNeg 1 = 1 from rfl]
      refine hS _ _ _ _ ?_
      refine And.intro (fun h39 => ?_) (fun h39 => ?_)
      · exact (lp_s e1 hi (by omega) h39).elim
      · iterate 6 refine hS _ _ _ _ ?_
        refine sm_of1 (by omega) (by omega) ?_
        rw [ef, ea]
        iterate 2 refine hS _ _ _ _ ?_
        refine ⟨(by first | assumption | exact vp_in_nI (by simp only [alen]; omega) (by decide)), ?_⟩
        rw [nI_clamp (by omega), e36]
        iterate 3 refine hS _ _ _ _ ?_
        refine And.intro (fun h56 => ?_) (fun h56 => ?_)
        · iterate 3 refine hS _ _ _ _ ?_
          refine sm_leadsTo (by omega) (by omega) ?_
          rw [ef, el.1]
          iterate 2 refine hS _ _ _ _ ?_
          refine ⟨(by first | assumption | exact vp_in_nI (by simp only [alen]; omega) (by decide)), ?_⟩
          try rw [nI_clamp (by omega)]
          iterate 2 refine hS _ _ _ _ ?_
          refine go _ ?_
          rw [ldS_t ⟨h56, rfl⟩, nI_or]
        · iterate 4 refine hS _ _ _ _ ?_
          refine ⟨(by first | assumption | exact vp_in_nI (by simp only [alen]; omega) (by decide)), ?_⟩
          try rw [nI_clamp (by omega)]
          iterate 2 refine hS _ _ _ _ ?_
          refine go _ ?_
          rw [ldS_f (fun y => y.1 h56)]; exact Int32.or_zero
  iterate 2 refine hS _ _ _ _ ?_
  refine lp_up (T := fun i => ∀ M', Fw M M' → (∀ t, t < i → M' 36 0 0 t = 0) → (∀ t, t < i → M' 37 0 0 t = nI (2 ^ t)) → S 2 [some (.inr (30, 0, 0)), some (.inl wo), some (.inl (nI i)), none] [] M') (N := 8) ?_ ?_ 0 (Nat.zero_le _) M (fun _ _ _ => rfl) (fun t h => absurd h (Nat.not_lt_zero _)) (fun t h => absurd h (Nat.not_lt_zero _))
  · intro M' a1 a2 a3
    iterate 3 refine hS _ _ _ _ ?_
    refine And.intro (fun h5 => ?_) (fun h5 => ?_)
    · iterate 2 refine hS _ _ _ _ ?_
      exact l2 M' a1 a2 a3
    · exact (lp_x (n := 8) rfl h5).elim
  · intro i hi ih M' a1 a2 a3
    iterate 3 refine hS _ _ _ _ ?_
    refine And.intro (fun h5 => ?_) (fun h5 => ?_)
    · exact (lp_s (n := 8) rfl hi (by omega) h5).elim
    · iterate 5 refine hS _ _ _ _ ?_
      refine ⟨(by first | assumption | exact vp_in_nI (by simp only [alen]; omega) (by decide)), ?_⟩
      try rw [nI_clamp (by omega)]
      iterate 7 refine hS _ _ _ _ ?_
      refine ⟨(by first | assumption | exact vp_in_nI (by simp only [alen]; omega) (by decide)), ?_⟩
      try rw [nI_clamp (by omega)]
      iterate 2 refine hS _ _ _ _ ?_
      rw [nI_succ] at ih
      rw [shl8 i (by omega)]
      refine ih _ (fun k a b => (mz_k b).trans ((mz_k a).trans (a1 k a b))) (fun t ht => ?_) (fun t ht => ?_)
      · show mu M' 36 0 0 i 0 36 0 0 t = 0
        by_cases z : t = i
        · subst z; rw [mz_at]
        · rw [upd_mu, upd_ne z]; exact a2 t (by omega)
      · by_cases z : t = i
        · subst z; rw [mz_at]
        · rw [upd_mu, upd_ne z]; exact a3 t (by omega)
theorem sm_reachedInAll (hd : 5 ≤ d) (hC : CN (M 31 0 0)) (hR : RG (M 31 0 0)) (hQ : ∀ M', Fw M M' → Q (some (.inl (nI (smF (M 31 0 0) wo 8)))) M') : Td PR d 168 [.inr (30, 0, 0), .inl wo] M Q := by
  obtain ⟨e, rfl⟩ : ∃ e, d = e + 1 := ⟨d - 1, by omega⟩
  refine td_X10_reachedInAll ?_
  intro S hS
  iterate 3 refine hS _ _ _ _ ?_
  refine sm_looksAround (by omega) hC hR (fun M1 f1 a36 a37 => ?_)
  iterate 4 refine hS _ _ _ _ ?_
  refine lp_up (T := fun i => S 9 [some (.inr (30, 0, 0)), some (.inl wo), some (.inl (nI (smF (M 31 0 0) wo i))), some (.inl (nI i))] [] M1) (N := 8) ?_ ?_ 0 (Nat.zero_le _)
  · iterate 3 refine hS _ _ _ _ ?_
    refine And.intro (fun h12 => ?_) (fun h12 => ?_)
    · iterate 2 refine hS _ _ _ _ ?_
      exact hQ M1 f1
    · exact (lp_x (n := 8) rfl h12).elim
  · intro i hi ih
    rw [nI_succ, show smF (M 31 0 0) wo (i + 1) = smF (M 31 0 0) wo i + pcnt 9 (RR (M 31 0 0) wo i) from rfl, ← nI_add] at ih
    have hlt := RR_lt hR (wo := wo) hi
    iterate 3 refine hS _ _ _ _ ?_
    refine And.intro (fun h12 => ?_) (fun h12 => ?_)
    · exact (lp_s (n := 8) rfl hi (by omega) h12).elim
    · iterate 5 refine hS _ _ _ _ ?_
      refine ⟨(by first | assumption | exact vp_in_nI (by simp only [alen]; omega) (by decide)), ?_⟩
      rw [nI_clamp (by omega), a37 i hi]
      refine hS _ _ _ _ ?_
      refine sm_manyOf (by omega) (by omega) ?_
      iterate 4 refine hS _ _ _ _ ?_
      exact ih
end W23
noncomputable def reachV (f : FA) (t : Int32) : Int32 := iteC (isBd 8 t) (nI (RR f (-1) t.toNatClampNeg)) (-1000000001)
noncomputable def wayV (f : FA) (a b : Int32) : Int32 := iteC (isBd 8 a ∧ isBd 8 b) (if 0 ≤ wyF f a.toNatClampNeg b.toNatClampNeg 0 8 then wyF f a.toNatClampNeg b.toNatClampNeg 0 8 else -1000000005) (-1000000001)
theorem wyF_c {f : FA} {a b : Nat} : ∀ n k, wyF f a b k n = -1 ∨ ∃ j, j < k + n ∧ wyF f a b k n = nI j := by
  intro n
  induction n with
  | zero => intro k; exact Or.inl rfl
  | succ n ih =>
    intro k
    rw [wyF_s]
    split
    · exact Or.inr ⟨k, by omega, rfl⟩
    · rcases ih (k + 1) with z | ⟨j, h1, h2⟩
      · exact Or.inl z
      · exact Or.inr ⟨j, by omega, h2⟩
/-- the first least of h 0 .. h n -/
def anF (h : Nat → Nat) : Nat → Nat × Nat
  | 0 => (0, h 0)
  | n + 1 => if h (n + 1) < (anF h n).2 then (n + 1, h (n + 1)) else anF h n
theorem anF_s {h : Nat → Nat} {n : Nat} : anF h (n + 1) = if h (n + 1) < (anF h n).2 then (n + 1, h (n + 1)) else anF h n := rfl
theorem anF_le {h : Nat → Nat} {K : Nat} (hk : ∀ i, h i ≤ K) : ∀ n, (anF h n).1 ≤ n ∧ (anF h n).2 ≤ K := by
  intro n
  induction n with
  | zero => exact ⟨Nat.le_refl _, hk 0⟩
  | succ n ih =>
    rw [anF_s]
    split
    · exact ⟨Nat.le_refl _, hk _⟩
    · exact ⟨by omega, ih.2⟩
noncomputable def rwF (f : FA) (b : Nat) : Nat := smF f (nI b) 8
noncomputable def missedV (f : FA) (w : Int32) : Int32 := iteC (isBd 2 w) (if cB f = 0 then -1000000005 else if w = 0 then nI (anF (rwF f) (cB f - 1)).1 else nI (anF (rwF f) (cB f - 1)).2) (-1000000001)
theorem c_reach {M : Mem} {Q : PQ} {d : Nat} {t : Int32} (hd : 500 ≤ d) (hI : INV M) (hQ : ∀ M', FrS M M' → Q (some (.inl (reachV (M 31 0 0) t))) M') : Td PR d 80 [.inr (0, 0, 0), .inl t] M Q := by
  have hL := hI.ll
  have hC := hI.cn
  have hb10 := hL.b10
  have hp9 := hL.p9
  have ht14 := hL.t14
  generalize hV : reachV (M 31 0 0) t = W at hQ
  obtain ⟨e, rfl⟩ : ∃ e, d = e + 1 := ⟨d - 1, by omega⟩
  refine td_X9_reach ?_
  intro S hS
  iterate 2 refine hS _ _ _ _ ?_
  refine sp_isTown (by omega) ?_
  refine hS _ _ _ _ ?_
  refine And.intro (fun h4 => ?_) (fun h4 => ?_)
  · replace h4 := bI_f h4
    iterate 2 refine hS _ _ _ _ ?_
    rw [reachV, iteC_f h4] at hV
    exact qv (hQ _ FrS.rf) hV.symm
  · replace h4 := bI_t h4
    obtain ⟨j, hj, rfl⟩ := h4
    rw [reachV, iteC_t ⟨j, hj, rfl⟩, nI_clamp (by omega)] at hV
    iterate 5 refine hS _ _ _ _ ?_
    refine sp_reachOf (by omega) hL hI.wf.2.2 hj ?_
    iterate 2 refine hS _ _ _ _ ?_
    exact qv (hQ _ FrS.rf) hV.symm
theorem m_reach {M : Mem} {Q : PQ} {d : Nat} {t : Int32} (hd : 500 ≤ d) (hI : INV M) (hQ : ∀ M', FrS M M' → Q (some (.inl (reachV (M 31 0 0) t))) M') : Td PR d 165 [.inr (30, 0, 0), .inl t] M Q := by
  have hL := hI.ll
  have hC := hI.cn
  have hb10 := hL.b10
  have hp9 := hL.p9
  have ht14 := hL.t14
  generalize hV : reachV (M 31 0 0) t = W at hQ
  obtain ⟨e, rfl⟩ : ∃ e, d = e + 1 := ⟨d - 1, by omega⟩
  refine td_X10_reach ?_
  intro S hS
  iterate 2 refine hS _ _ _ _ ?_
  refine sm_isTown (by omega) ?_
  refine hS _ _ _ _ ?_
  refine And.intro (fun h4 => ?_) (fun h4 => ?_)
  · replace h4 := bI_t h4
    obtain ⟨j, hj, rfl⟩ := h4
    rw [reachV, iteC_t ⟨j, hj, rfl⟩, nI_clamp (by omega)] at hV
    iterate 3 refine hS _ _ _ _ ?_
    refine sm_looksAround (by omega) hC hI.wf.2.2 (fun M1 f1 a36 a37 => ?_)
    iterate 4 refine hS _ _ _ _ ?_
    refine ⟨(by first | assumption | exact vp_in_nI (by simp only [alen]; omega) (by decide)), ?_⟩
    rw [nI_clamp (by omega), a37 j hj]
    refine hS _ _ _ _ ?_
    exact qv (hQ _ f1.sc) hV.symm
  · replace h4 := bI_f h4
    iterate 2 refine hS _ _ _ _ ?_
    rw [reachV, iteC_f h4] at hV
    exact qv (hQ _ FrS.rf) hV.symm
theorem op_reach {t : Int32} : OpOK 80 165 [.inl t] := op_q (fun M => reachV (M 31 0 0) t) (fun M Q d hd hI hQ => c_reach hd hI hQ) (fun M Q d hd hI hQ => m_reach hd hI hQ) (fun M M' h => by simp only [h.k31])
theorem c_way {M : Mem} {Q : PQ} {d : Nat} {a b : Int32} (hd : 500 ≤ d) (hI : INV M) (hQ : ∀ M', FrS M M' → Q (some (.inl (wayV (M 31 0 0) a b))) M') : Td PR d 81 [.inr (0, 0, 0), .inl a, .inl b] M Q := by
  have hL := hI.ll
  have hC := hI.cn
  have hb10 := hL.b10
  have hp9 := hL.p9
  have ht14 := hL.t14
  generalize hV : wayV (M 31 0 0) a b = W at hQ
  obtain ⟨e, rfl⟩ : ∃ e, d = e + 1 := ⟨d - 1, by omega⟩
  refine td_X9_way ?_
  intro S hS
  iterate 2 refine hS _ _ _ _ ?_
  refine sp_isTown (by omega) ?_
  refine hS _ _ _ _ ?_
  refine And.intro (fun h4 => ?_) (fun h4 => ?_)
  · replace h4 := bI_f h4
    iterate 2 refine hS _ _ _ _ ?_
    rw [wayV, iteC_f (fun z => h4 z.1)] at hV
    exact qv (hQ _ FrS.rf) hV.symm
  · replace h4 := bI_t h4
    iterate 2 refine hS _ _ _ _ ?_
    refine sp_isTown (by omega) ?_
    refine hS _ _ _ _ ?_
    refine And.intro (fun h11 => ?_) (fun h11 => ?_)
    · replace h11 := bI_t h11
      obtain ⟨j, hj, rfl⟩ := h4
      obtain ⟨k, hk, rfl⟩ := h11
      rw [wayV, iteC_t ⟨⟨j, hj, rfl⟩, ⟨k, hk, rfl⟩⟩, nI_clamp (by omega), nI_clamp (by omega)] at hV
      iterate 5 refine hS _ _ _ _ ?_
      refine sp_steps (by omega) hL hI.wf.2.2 hj hk ?_
      iterate 3 refine hS _ _ _ _ ?_
      refine And.intro (fun h28 => ?_) (fun h28 => ?_)
      · iterate 2 refine hS _ _ _ _ ?_
        rw [if_pos h28] at hV
        exact qv (hQ _ FrS.rf) hV.symm
      · iterate 3 refine hS _ _ _ _ ?_
        rw [if_neg h28] at hV
        exact qv (hQ _ FrS.rf) hV.symm
    · replace h11 := bI_f h11
      iterate 2 refine hS _ _ _ _ ?_
      rw [wayV, iteC_f (fun z => h11 z.2)] at hV
      exact qv (hQ _ FrS.rf) hV.symm
theorem m_way {M : Mem} {Q : PQ} {d : Nat} {a b : Int32} (hd : 500 ≤ d) (hI : INV M) (hQ : ∀ M', FrS M M' → Q (some (.inl (wayV (M 31 0 0) a b))) M') : Td PR d 166 [.inr (30, 0, 0), .inl a, .inl b] M Q := by
  have hL := hI.ll
  have hC := hI.cn
  have hb10 := hL.b10
  have hp9 := hL.p9
  have ht14 := hL.t14
  generalize hV : wayV (M 31 0 0) a b = W at hQ
  have mlp : ∀ j k, j < 8 → k < 8 → ∀ W, (if 0 ≤ wyF (M 31 0 0) j k 0 8 then wyF (M 31 0 0) j k 0 8 else -1000000005) = W → ∀ Q : PQ, (∀ M', FrS M M' → Q (some (.inl W)) M') → ∀ {e : Nat} (S : CF), Clo (Td PR e) (some .int) T_X10_way Q S → 20 ≤ e → ∀ M1, Fw M M1 → (∀ t, t < 8 → M1 36 0 0 t = nI (ldS (M 31 0 0) (-1) t (cB (M 31 0 0)))) → S 29 [some (.inr (30, 0, 0)), some (.inl (nI j)), some (.inl (nI k)), some (.inl (nI (2 ^ j))), some (.inl 0)] [] M1 := by
    intro j k hj hk W hV Q hQ e S hS he M1 f1 a36
    have hR := hI.wf.2.2
    have h2 := pc_pow j hj
    generalize hf : M 31 0 0 = f at *
    have lp : ∀ i, i ≤ 8 → wyF f j k i (8 - i) = wyF f j k 0 8 → S 29 [some (.inr (30, 0, 0)), some (.inl (nI j)), some (.inl (nI k)), some (.inl (nI (itF f (-1) (2 ^ j) i))), some (.inl (nI i))] [] M1 := by
      refine lp_up (N := 8) ?_ ?_
      · intro hE
        have hE' : wyF f j k 0 8 = -1 := hE.symm
        rw [hE', if_neg (by decide)] at hV
        iterate 3 refine hS _ _ _ _ ?_
        refine And.intro (fun h33 => ?_) (fun h33 => ?_)
        · iterate 2 refine hS _ _ _ _ ?_
          exact qv (hQ _ f1.sc) hV.symm
        · exact (lp_x (n := 8) rfl h33).elim
      · intro i hi ih hE
        rw [show 8 - i = (8 - (i + 1)) + 1 by omega, wyF_s] at hE
        have tb := tb2 (itF_lt hR h2.2 i (wo := -1)) hk
        iterate 3 refine hS _ _ _ _ ?_
        refine And.intro (fun h33 => ?_) (fun h33 => ?_)
        · exact (lp_s (n := 8) rfl hi (by omega) h33).elim
        · iterate 7 refine hS _ _ _ _ ?_
          refine And.intro (fun h42 => ?_) (fun h42 => ?_)
          · rw [tb] at h42
            have hz : ¬ (itF f (-1) (2 ^ j) i).testBit k = true := fun z => h42 (by rw [if_pos z])
            rw [if_neg hz] at hE
            iterate 3 refine hS _ _ _ _ ?_
            refine sm_onward (by omega) hR (itF_lt hR h2.2 i) a36 ?_
            iterate 3 refine hS _ _ _ _ ?_
            have := ih hE
            rw [nI_succ] at this
            exact this
          · rw [tb] at h42
            have hz : (itF f (-1) (2 ^ j) i).testBit k = true := Classical.byContradiction fun z => absurd h42 (by rw [if_neg z]; decide)
            rw [if_pos hz] at hE
            rw [← hE, if_pos (nI_pos' (by omega))] at hV
            iterate 2 refine hS _ _ _ _ ?_
            exact qv (hQ _ f1.sc) hV.symm
    exact lp 0 (by omega) rfl
  obtain ⟨e, rfl⟩ : ∃ e, d = e + 1 := ⟨d - 1, by omega⟩
  refine td_X10_way ?_
  intro S hS
  iterate 2 refine hS _ _ _ _ ?_
  refine sm_isTown (by omega) ?_
  refine hS _ _ _ _ ?_
  refine And.intro (fun h4 => ?_) (fun h4 => ?_)
  · replace h4 := bI_f h4
    iterate 2 refine hS _ _ _ _ ?_
    rw [wayV, iteC_f (fun z => h4 z.1)] at hV
    exact qv (hQ _ FrS.rf) hV.symm
  · replace h4 := bI_t h4
    iterate 2 refine hS _ _ _ _ ?_
    refine sm_isTown (by omega) ?_
    refine hS _ _ _ _ ?_
    refine And.intro (fun h11 => ?_) (fun h11 => ?_)
    · replace h11 := bI_t h11
      obtain ⟨j, hj, rfl⟩ := h4
      obtain ⟨k, hk, rfl⟩ := h11
      rw [wayV, iteC_t ⟨⟨j, hj, rfl⟩, ⟨k, hk, rfl⟩⟩, nI_clamp (by omega), nI_clamp (by omega)] at hV
      iterate 3 refine hS _ _ _ _ ?_
      refine sm_looksAround (by omega) hC hI.wf.2.2 (fun M1 f1 a36 a37 => ?_)
      iterate 6 refine hS _ _ _ _ ?_
      have := mlp j k hj hk W hV Q hQ _ hS (by omega) M1 f1 a36
      rw [← shl8 j (by omega)] at this
      exact this
    · replace h11 := bI_f h11
      iterate 2 refine hS _ _ _ _ ?_
      rw [wayV, iteC_f (fun z => h11 z.2)] at hV
      exact qv (hQ _ FrS.rf) hV.symm
theorem op_way {a b : Int32} : OpOK 81 166 [.inl a, .inl b] := op_q (fun M => wayV (M 31 0 0) a b) (fun M Q d hd hI hQ => c_way hd hI hQ) (fun M Q d hd hI hQ => m_way hd hI hQ) (fun M M' h => by simp only [h.k31])
theorem c_missed {M : Mem} {Q : PQ} {d : Nat} {w : Int32} (hd : 500 ≤ d) (hI : INV M) (hQ : ∀ M', FrS M M' → Q (some (.inl (missedV (M 31 0 0) w))) M') : Td PR d 83 [.inr (0, 0, 0), .inl w] M Q := by
  have hL := hI.ll
  have hC := hI.cn
  have hb10 := hL.b10
  have hp9 := hL.p9
  have ht14 := hL.t14
  generalize hV : missedV (M 31 0 0) w = W at hQ
  have clp : ¬ cB (M 31 0 0) = 0 → ∀ W, (if w = 0 then nI (anF (rwF (M 31 0 0)) (cB (M 31 0 0) - 1)).1 else nI (anF (rwF (M 31 0 0)) (cB (M 31 0 0) - 1)).2) = W → ∀ Q : PQ, (∀ M', FrS M M' → Q (some (.inl W)) M') → ∀ {e : Nat} (S : CF), Clo (Td PR e) (some .int) T_X9_missed Q S → 20 ≤ e → S 39 [some (.inr (0, 0, 0)), some (.inl w), some (.inl 0), some (.inl (nI (smF (M 31 0 0) 0 8))), some (.inl 1), none] [] M := by
    intro hz W hV Q hQ e S hS he
    have hR := hI.wf.2.2
    have hh9 : ∀ v, rwF (M 31 0 0) v ≤ 72 := fun v => smF_le 8
    have := lp_up (T := fun i => ∀ o, 1 ≤ i → S 39 [some (.inr (0, 0, 0)), some (.inl w), some (.inl (nI (anF (rwF (M 31 0 0)) (i - 1)).1)), some (.inl (nI (anF (rwF (M 31 0 0)) (i - 1)).2)), some (.inl (nI i)), o] [] M) (N := cB (M 31 0 0)) ?_ ?_ 1 (by omega) none (Nat.le_refl _)
    · exact this
    · intro o _
      iterate 5 refine hS _ _ _ _ ?_
      refine And.intro (fun h48 => ?_) (fun h48 => ?_)
      · iterate 2 refine hS _ _ _ _ ?_
        refine And.intro (fun h81 => ?_) (fun h81 => ?_)
        · iterate 2 refine hS _ _ _ _ ?_
          rw [if_neg h81] at hV
          exact qv (hQ _ FrS.rf) hV.symm
        · iterate 3 refine hS _ _ _ _ ?_
          rw [if_pos h81] at hV
          exact qv (hQ _ FrS.rf) hV.symm
      · exact (lp_x hL.bc h48).elim
    · intro i hi ih o hi1
      obtain ⟨x, rfl⟩ : ∃ x, i = x + 1 := ⟨i - 1, by omega⟩
      rw [Nat.add_sub_cancel] at *
      have hle := anF_le hh9 x
      have g1 := hh9 (x + 1)
      iterate 5 refine hS _ _ _ _ ?_
      refine And.intro (fun h48 => ?_) (fun h48 => ?_)
      · exact (lp_s hL.bc hi (by omega) h48).elim
      · iterate 4 refine hS _ _ _ _ ?_
        refine sp_reachedWithout (wo := nI (x + 1)) (by omega) hL hI.wf.2.2 ?_
        rw [show smF (M 31 0 0) (nI (x + 1)) 8 = rwF (M 31 0 0) (x + 1) from rfl]
        iterate 4 refine hS _ _ _ _ ?_
        refine And.intro (fun h65 => ?_) (fun h65 => ?_)
        · have hn : ¬ rwF (M 31 0 0) (x + 1) < (anF (rwF (M 31 0 0)) x).2 := fun y => absurd h65 (nI_ge y (by omega))
          iterate 2 refine hS _ _ _ _ ?_
          rw [anF_s, if_neg hn, nI_succ (x + 1)] at ih
          exact ih _ (by omega)
        · have hn : rwF (M 31 0 0) (x + 1) < (anF (rwF (M 31 0 0)) x).2 := Nat.lt_of_not_le fun y => h65 (nI_le y (by omega))
          iterate 6 refine hS _ _ _ _ ?_
          rw [anF_s, if_pos hn] at ih
          have := ih (some (.inl (nI (rwF (M 31 0 0) (x + 1))))) (by omega)
          rw [nI_succ (x + 1)] at this
          exact this
  obtain ⟨e, rfl⟩ : ∃ e, d = e + 1 := ⟨d - 1, by omega⟩
  refine td_X9_missed ?_
  intro S hS
  iterate 2 refine hS _ _ _ _ ?_
  refine And.intro (fun h1 => ?_) (fun h1 => ?_)
  · iterate 2 refine hS _ _ _ _ ?_
    rw [missedV, iteC_f (isBd_lo h1 (by omega))] at hV
    exact qv (hQ _ FrS.rf) hV.symm
  · iterate 3 refine hS _ _ _ _ ?_
    refine And.intro (fun h6 => ?_) (fun h6 => ?_)
    · have hw : isBd 2 w := (in_bd1 (n := 1) (by omega)).mp ⟨h1, Int32.not_lt.mpr h6⟩
      rw [missedV, iteC_t hw] at hV
      iterate 4 refine hS _ _ _ _ ?_
      refine And.intro (fun h19 => ?_) (fun h19 => ?_)
      · have h19' := h19
        rw [show M 1 0 0 2 = _ from hL.bc] at h19'
        have hz : ¬ cB (M 31 0 0) = 0 := fun z => h19' (by rw [z]; rfl)
        rw [if_neg hz] at hV
        iterate 6 refine hS _ _ _ _ ?_
        refine sp_reachedWithout (by omega) hL hI.wf.2.2 ?_
        iterate 3 refine hS _ _ _ _ ?_
        exact clp hz W hV Q hQ _ hS (by omega)
      · have h19' := h19
        rw [show M 1 0 0 2 = _ from hL.bc] at h19'
        have hz : cB (M 31 0 0) = 0 := (nI_eq (by omega) (by decide)).mp h19'
        rw [if_pos hz] at hV
        iterate 2 refine hS _ _ _ _ ?_
        exact qv (hQ _ FrS.rf) hV.symm
    · iterate 2 refine hS _ _ _ _ ?_
      rw [missedV, iteC_f (fun z => ((in_bd1 (n := 1) (by omega)).mpr z).2 (nle_lt h6))] at hV
      exact qv (hQ _ FrS.rf) hV.symm
theorem m_missed {M : Mem} {Q : PQ} {d : Nat} {w : Int32} (hd : 500 ≤ d) (hI : INV M) (hQ : ∀ M', FrS M M' → Q (some (.inl (missedV (M 31 0 0) w))) M') : Td PR d 169 [.inr (30, 0, 0), .inl w] M Q := by
  have hL := hI.ll
  have hC := hI.cn
  have hb10 := hL.b10
  have hp9 := hL.p9
  have ht14 := hL.t14
  generalize hV : missedV (M 31 0 0) w = W at hQ
  have mlp : ∀ W, (if cB (M 31 0 0) = 0 then -1000000005 else if w = 0 then nI (anF (rwF (M 31 0 0)) (cB (M 31 0 0) - 1)).1 else nI (anF (rwF (M 31 0 0)) (cB (M 31 0 0) - 1)).2) = W → ∀ Q : PQ, (∀ M', FrS M M' → Q (some (.inl W)) M') → ∀ {e : Nat} (S : CF), Clo (Td PR e) (some .int) T_X10_missed Q S → 20 ≤ e → S 19 [some (.inr (30, 0, 0)), some (.inl w), some (.inl (-1)), some (.inl 0), some (.inl 0), none] [] M := by
    intro W hV Q hQ e S hS he
    have hR := hI.wf.2.2
    have hh9 : ∀ v, rwF (M 31 0 0) v ≤ 72 := fun v => smF_le 8
    have hb1 := hC.1
    refine lp_up (T := fun i => ∀ o M', Fw M M' → ∀ b m, (if i = 0 then b = -1 ∧ m = 0 else b = nI (anF (rwF (M 31 0 0)) (i - 1)).1 ∧ m = nI (anF (rwF (M 31 0 0)) (i - 1)).2) → S 19 [some (.inr (30, 0, 0)), some (.inl w), some (.inl b), some (.inl m), some (.inl (nI i)), o] [] M') (N := cB (M 31 0 0)) ?_ ?_ 0 (Nat.zero_le _) none M (fun _ _ _ => rfl) (-1) 0 (by rw [if_pos rfl]; exact ⟨rfl, rfl⟩)
    · intro o M' a1 b m hbm
      have e1 : M' 31 0 0 1 = nI (cB (M 31 0 0)) := by rw [a1 31 (by decide) (by decide)]; exact hb1
      by_cases hz : cB (M 31 0 0) = 0
      · rw [if_pos hz] at hbm hV
        obtain ⟨rfl, rfl⟩ := hbm
        iterate 5 refine hS _ _ _ _ ?_
        refine ⟨vp_l rfl, ?_⟩
        try rw [show Int32.toNatClampNeg 1 = 1 from rfl]
        refine hS _ _ _ _ ?_
        refine And.intro (fun h27 => ?_) (fun h27 => ?_)
        · iterate 2 refine hS _ _ _ _ ?_
          refine And.intro (fun h61 => ?_) (fun h61 => ?_)
          · exact absurd h61 (by decide)
          · iterate 3 refine hS _ _ _ _ ?_
            exact qv (hQ _ a1.sc) hV.symm
        · exact (lp_x e1 h27).elim
      · rw [if_neg hz] at hbm hV
        obtain ⟨rfl, rfl⟩ := hbm
        have hle := anF_le hh9 (cB (M 31 0 0) - 1)
        iterate 5 refine hS _ _ _ _ ?_
        refine ⟨vp_l rfl, ?_⟩
        try rw [show Int32.toNatClampNeg 1 = 1 from rfl]
        refine hS _ _ _ _ ?_
        refine And.intro (fun h27 => ?_) (fun h27 => ?_)
        · iterate 2 refine hS _ _ _ _ ?_
          refine And.intro (fun h61 => ?_) (fun h61 => ?_)
          · iterate 2 refine hS _ _ _ _ ?_
            refine And.intro (fun h70 => ?_) (fun h70 => ?_)
            · iterate 2 refine hS _ _ _ _ ?_
              rw [if_neg h70] at hV
              exact qv (hQ _ a1.sc) hV.symm
            · iterate 3 refine hS _ _ _ _ ?_
              rw [if_pos h70] at hV
              exact qv (hQ _ a1.sc) hV.symm
          · exact absurd (nI_pos' (by omega)) h61
        · exact (lp_x e1 h27).elim
    · intro i hi ih o M' a1 b m hbm
      have e31 : M' 31 0 0 = M 31 0 0 := by rw [a1 31 (by decide) (by decide)]
      have e1 : M' 31 0 0 1 = nI (cB (M 31 0 0)) := by rw [e31]; exact hb1
      have g1 := hh9 i
      have hri : ∀ o2 M2, Fw M M2 → ∀ b2 m2, b2 = nI (anF (rwF (M 31 0 0)) i).1 → m2 = nI (anF (rwF (M 31 0 0)) i).2 → S 19 [some (.inr (30, 0, 0)), some (.inl w), some (.inl b2), some (.inl m2), some (.inl (nI i + 1)), o2] [] M2 := by
        intro o2 M2 c1 b2 m2 x1 x2
        have := ih o2 M2 c1 b2 m2 (by rw [if_neg (by omega)]; exact ⟨x1, x2⟩)
        rw [nI_succ] at this
        exact this
      iterate 5 refine hS _ _ _ _ ?_
      refine ⟨vp_l rfl, ?_⟩
      try rw [show Int32.toNatClampNeg 1 = 1 from rfl]
      refine hS _ _ _ _ ?_
      refine And.intro (fun h27 => ?_) (fun h27 => ?_)
      · exact (lp_s e1 hi (by omega) h27).elim
      · iterate 3 refine hS _ _ _ _ ?_
        refine sm_reachedInAll (wo := nI i) (by omega) (by rw [e31]; exact hC) (by rw [e31]; exact hR) (fun M2 f2 => ?_)
        rw [e31, show smF (M 31 0 0) (nI i) 8 = rwF (M 31 0 0) i from rfl]
        have fw : Fw M M2 := fun k x y => (f2 k x y).trans (a1 k x y)
        iterate 3 refine hS _ _ _ _ ?_
        refine And.intro (fun h39 => ?_) (fun h39 => ?_)
        · have z : i = 0 := by
            rcases Nat.eq_zero_or_pos i with z | z
            · exact z
            · rw [if_neg (by omega)] at hbm
              rw [hbm.1] at h39
              have := (anF_le hh9 (i - 1)).1
              exact absurd h39 (nI_pos (by omega))
          iterate 6 refine hS _ _ _ _ ?_
          subst z
          exact hri _ M2 fw _ _ rfl rfl
        · have z : 0 < i := by
            rcases Nat.eq_zero_or_pos i with z | z
            · rw [if_pos z] at hbm
              rw [hbm.1] at h39
              exact absurd (by decide) h39
            · exact z
          rw [if_neg (by omega)] at hbm
          obtain ⟨x, rfl⟩ : ∃ x, i = x + 1 := ⟨i - 1, by omega⟩
          rw [Nat.add_sub_cancel] at *
          have hle := anF_le hh9 x
          iterate 3 refine hS _ _ _ _ ?_
          refine And.intro (fun h45 => ?_) (fun h45 => ?_)
          · rw [hbm.2] at h45
            have hn : ¬ rwF (M 31 0 0) (x + 1) < (anF (rwF (M 31 0 0)) x).2 := fun y => absurd h45 (nI_ge y (by omega))
            iterate 2 refine hS _ _ _ _ ?_
            exact hri _ M2 fw _ _ (by rw [anF_s, if_neg hn]; exact hbm.1) (by rw [anF_s, if_neg hn]; exact hbm.2)
          · rw [hbm.2] at h45
            have hn : rwF (M 31 0 0) (x + 1) < (anF (rwF (M 31 0 0)) x).2 := Nat.lt_of_not_le fun y => h45 (nI_le y (by omega))
            iterate 6 refine hS _ _ _ _ ?_
            exact hri _ M2 fw _ _ (by rw [anF_s, if_pos hn]) (by rw [anF_s, if_pos hn])
  obtain ⟨e, rfl⟩ : ∃ e, d = e + 1 := ⟨d - 1, by omega⟩
  refine td_X10_missed ?_
  intro S hS
  iterate 4 refine hS _ _ _ _ ?_
  refine sm_in (by omega) ?_
  refine hS _ _ _ _ ?_
  refine And.intro (fun h6 => ?_) (fun h6 => ?_)
  · replace h6 := bI_t h6
    replace h6 := (in_bd1 (n := 1) (by omega)).mp h6
    rw [missedV, iteC_t h6] at hV
    iterate 6 refine hS _ _ _ _ ?_
    exact mlp W hV Q hQ _ hS (by omega)
  · replace h6 := bI_f h6
    replace h6 := fun z => h6 ((in_bd1 (n := 1) (by omega)).mpr z)
    iterate 2 refine hS _ _ _ _ ?_
    rw [missedV, iteC_f h6] at hV
    exact qv (hQ _ FrS.rf) hV.symm
theorem op_missed {w : Int32} : OpOK 83 169 [.inl w] := op_q (fun M => missedV (M 31 0 0) w) (fun M Q d hd hI hQ => c_missed hd hI hQ) (fun M Q d hd hI hQ => m_missed hd hI hQ) (fun M M' h => by simp only [h.k31])
