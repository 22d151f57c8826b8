-- 64.pure35: the law's loop, from the 45 calls
def LB (n : Nat) (M : Mem) : Prop := vp_in (nI n + 1) (M 91 0 0 0).toNatClampNeg ∧ vp_in (nI n + 2) (M 91 0 0 0).toNatClampNeg ∧ vp_in (nI n + 3) (M 91 0 0 0).toNatClampNeg ∧ vp_in (nI n + 4) (M 91 0 0 0).toNatClampNeg ∧ vp_in (nI n + 5) (M 91 0 0 0).toNatClampNeg
theorem LB.kp {n : Nat} {M M' : Mem} (h : LB n M) (k : Kp M M') : LB n M' := by
  unfold LB
  rw [k.2]
  exact h
section L35
variable {e n : Nat} {S : CF} {M : Mem}
theorem lw_bed (hS : Clo (Td PR e) (some .boolean) T_L_law (fun r _ => r = some (.inl 1)) S) (hd : 500 ≤ e) (hI : INV M) (B : LB n M) (nx : ∀ M2, INV M2 → Kp M M2 → S 1573 [some (.inr (90, 0, 0)), some (.inr (0, 0, 0)), some (.inr (30, 0, 0)), some (.inl (nI n))] [] M2) : S 228 [some (.inr (90, 0, 0)), some (.inr (0, 0, 0)), some (.inr (30, 0, 0)), some (.inl (nI n))] [] M := by
  iterate 6 refine hS _ _ _ _ ?_
  refine ⟨B.1, ?_⟩
  skip
  iterate 5 refine hS _ _ _ _ ?_
  refine ⟨B.2.1, ?_⟩
  skip
  iterate 5 refine hS _ _ _ _ ?_
  refine ⟨B.2.2.1, ?_⟩
  skip
  iterate 5 refine hS _ _ _ _ ?_
  refine ⟨B.2.2.2.1, ?_⟩
  skip
  refine hS _ _ _ _ ?_
  refine Td_mono PR _ _ (Nat.le_refl _) _ _ _ _ _ ?_ (op_bed M hI e hd)
  rintro r M1 ⟨v, rfl, kp, td⟩
  have B1 := B.kp kp
  iterate 6 refine hS _ _ _ _ ?_
  refine ⟨B1.1, ?_⟩
  skip
  iterate 5 refine hS _ _ _ _ ?_
  refine ⟨B1.2.1, ?_⟩
  skip
  iterate 5 refine hS _ _ _ _ ?_
  refine ⟨B1.2.2.1, ?_⟩
  skip
  iterate 5 refine hS _ _ _ _ ?_
  refine ⟨B1.2.2.2.1, ?_⟩
  skip
  refine hS _ _ _ _ ?_
  rw [kp.1]
  refine Td_mono PR _ _ (Nat.le_refl _) _ _ _ _ _ ?_ td
  rintro r2 M2 ⟨rfl, hI2, kp2⟩
  refine hS _ _ _ _ ?_
  refine And.intro (fun h276 => ?_) (fun h276 => ?_)
  · exact nx M2 hI2 (kp.tr kp2)
  · exact (h276 rfl).elim
theorem lw_told (hS : Clo (Td PR e) (some .boolean) T_L_law (fun r _ => r = some (.inl 1)) S) (hd : 500 ≤ e) (hI : INV M) (B : LB n M) (nx : ∀ M2, INV M2 → Kp M M2 → S 1573 [some (.inr (90, 0, 0)), some (.inr (0, 0, 0)), some (.inr (30, 0, 0)), some (.inl (nI n))] [] M2) : S 281 [some (.inr (90, 0, 0)), some (.inr (0, 0, 0)), some (.inr (30, 0, 0)), some (.inl (nI n))] [] M := by
  iterate 6 refine hS _ _ _ _ ?_
  refine ⟨B.1, ?_⟩
  skip
  iterate 5 refine hS _ _ _ _ ?_
  refine ⟨B.2.1, ?_⟩
  skip
  refine hS _ _ _ _ ?_
  refine Td_mono PR _ _ (Nat.le_refl _) _ _ _ _ _ ?_ (op_told M hI e hd)
  rintro r M1 ⟨v, rfl, kp, td⟩
  have B1 := B.kp kp
  iterate 6 refine hS _ _ _ _ ?_
  refine ⟨B1.1, ?_⟩
  skip
  iterate 5 refine hS _ _ _ _ ?_
  refine ⟨B1.2.1, ?_⟩
  skip
  refine hS _ _ _ _ ?_
  rw [kp.1]
  refine Td_mono PR _ _ (Nat.le_refl _) _ _ _ _ _ ?_ td
  rintro r2 M2 ⟨rfl, hI2, kp2⟩
  refine hS _ _ _ _ ?_
  refine And.intro (fun h309 => ?_) (fun h309 => ?_)
  · exact nx M2 hI2 (kp.tr kp2)
  · exact (h309 rfl).elim
theorem lw_as (hS : Clo (Td PR e) (some .boolean) T_L_law (fun r _ => r = some (.inl 1)) S) (hd : 500 ≤ e) (hI : INV M) (B : LB n M) (nx : ∀ M2, INV M2 → Kp M M2 → S 1573 [some (.inr (90, 0, 0)), some (.inr (0, 0, 0)), some (.inr (30, 0, 0)), some (.inl (nI n))] [] M2) : S 314 [some (.inr (90, 0, 0)), some (.inr (0, 0, 0)), some (.inr (30, 0, 0)), some (.inl (nI n))] [] M := by
  iterate 6 refine hS _ _ _ _ ?_
  refine ⟨B.1, ?_⟩
  skip
  iterate 5 refine hS _ _ _ _ ?_
  refine ⟨B.2.1, ?_⟩
  skip
  refine hS _ _ _ _ ?_
  refine Td_mono PR _ _ (Nat.le_refl _) _ _ _ _ _ ?_ (op_as M hI e hd)
  rintro r M1 ⟨v, rfl, kp, td⟩
  have B1 := B.kp kp
  iterate 6 refine hS _ _ _ _ ?_
  refine ⟨B1.1, ?_⟩
  skip
  iterate 5 refine hS _ _ _ _ ?_
  refine ⟨B1.2.1, ?_⟩
  skip
  refine hS _ _ _ _ ?_
  rw [kp.1]
  refine Td_mono PR _ _ (Nat.le_refl _) _ _ _ _ _ ?_ td
  rintro r2 M2 ⟨rfl, hI2, kp2⟩
  refine hS _ _ _ _ ?_
  refine And.intro (fun h342 => ?_) (fun h342 => ?_)
  · exact nx M2 hI2 (kp.tr kp2)
  · exact (h342 rfl).elim
theorem lw_turns (hS : Clo (Td PR e) (some .boolean) T_L_law (fun r _ => r = some (.inl 1)) S) (hd : 500 ≤ e) (hI : INV M) (B : LB n M) (nx : ∀ M2, INV M2 → Kp M M2 → S 1573 [some (.inr (90, 0, 0)), some (.inr (0, 0, 0)), some (.inr (30, 0, 0)), some (.inl (nI n))] [] M2) : S 347 [some (.inr (90, 0, 0)), some (.inr (0, 0, 0)), some (.inr (30, 0, 0)), some (.inl (nI n))] [] M := by
  iterate 6 refine hS _ _ _ _ ?_
  refine ⟨B.1, ?_⟩
  skip
  iterate 5 refine hS _ _ _ _ ?_
  refine ⟨B.2.1, ?_⟩
  skip
  refine hS _ _ _ _ ?_
  refine Td_mono PR _ _ (Nat.le_refl _) _ _ _ _ _ ?_ (op_turns M hI e hd)
  rintro r M1 ⟨v, rfl, kp, td⟩
  have B1 := B.kp kp
  iterate 6 refine hS _ _ _ _ ?_
  refine ⟨B1.1, ?_⟩
  skip
  iterate 5 refine hS _ _ _ _ ?_
  refine ⟨B1.2.1, ?_⟩
  skip
  refine hS _ _ _ _ ?_
  rw [kp.1]
  refine Td_mono PR _ _ (Nat.le_refl _) _ _ _ _ _ ?_ td
  rintro r2 M2 ⟨rfl, hI2, kp2⟩
  refine hS _ _ _ _ ?_
  refine And.intro (fun h375 => ?_) (fun h375 => ?_)
  · exact nx M2 hI2 (kp.tr kp2)
  · exact (h375 rfl).elim
theorem lw_set (hS : Clo (Td PR e) (some .boolean) T_L_law (fun r _ => r = some (.inl 1)) S) (hd : 500 ≤ e) (hI : INV M) (B : LB n M) (nx : ∀ M2, INV M2 → Kp M M2 → S 1573 [some (.inr (90, 0, 0)), some (.inr (0, 0, 0)), some (.inr (30, 0, 0)), some (.inl (nI n))] [] M2) : S 380 [some (.inr (90, 0, 0)), some (.inr (0, 0, 0)), some (.inr (30, 0, 0)), some (.inl (nI n))] [] M := by
  iterate 6 refine hS _ _ _ _ ?_
  refine ⟨B.1, ?_⟩
  skip
  iterate 5 refine hS _ _ _ _ ?_
  refine ⟨B.2.1, ?_⟩
  skip
  iterate 5 refine hS _ _ _ _ ?_
  refine ⟨B.2.2.1, ?_⟩
  skip
  refine hS _ _ _ _ ?_
  refine Td_mono PR _ _ (Nat.le_refl _) _ _ _ _ _ ?_ (op_set M hI e hd)
  rintro r M1 ⟨v, rfl, kp, td⟩
  have B1 := B.kp kp
  iterate 6 refine hS _ _ _ _ ?_
  refine ⟨B1.1, ?_⟩
  skip
  iterate 5 refine hS _ _ _ _ ?_
  refine ⟨B1.2.1, ?_⟩
  skip
  iterate 5 refine hS _ _ _ _ ?_
  refine ⟨B1.2.2.1, ?_⟩
  skip
  refine hS _ _ _ _ ?_
  rw [kp.1]
  refine Td_mono PR _ _ (Nat.le_refl _) _ _ _ _ _ ?_ td
  rintro r2 M2 ⟨rfl, hI2, kp2⟩
  refine hS _ _ _ _ ?_
  refine And.intro (fun h418 => ?_) (fun h418 => ?_)
  · exact nx M2 hI2 (kp.tr kp2)
  · exact (h418 rfl).elim
theorem lw_carry (hS : Clo (Td PR e) (some .boolean) T_L_law (fun r _ => r = some (.inl 1)) S) (hd : 500 ≤ e) (hI : INV M) (B : LB n M) (nx : ∀ M2, INV M2 → Kp M M2 → S 1573 [some (.inr (90, 0, 0)), some (.inr (0, 0, 0)), some (.inr (30, 0, 0)), some (.inl (nI n))] [] M2) : S 423 [some (.inr (90, 0, 0)), some (.inr (0, 0, 0)), some (.inr (30, 0, 0)), some (.inl (nI n))] [] M := by
  iterate 6 refine hS _ _ _ _ ?_
  refine ⟨B.1, ?_⟩
  skip
  refine hS _ _ _ _ ?_
  refine Td_mono PR _ _ (Nat.le_refl _) _ _ _ _ _ ?_ (op_carry M hI e hd)
  rintro r M1 ⟨v, rfl, kp, td⟩
  have B1 := B.kp kp
  iterate 6 refine hS _ _ _ _ ?_
  refine ⟨B1.1, ?_⟩
  skip
  refine hS _ _ _ _ ?_
  rw [kp.1]
  refine Td_mono PR _ _ (Nat.le_refl _) _ _ _ _ _ ?_ td
  rintro r2 M2 ⟨rfl, hI2, kp2⟩
  refine hS _ _ _ _ ?_
  refine And.intro (fun h441 => ?_) (fun h441 => ?_)
  · exact nx M2 hI2 (kp.tr kp2)
  · exact (h441 rfl).elim
theorem lw_deal (hS : Clo (Td PR e) (some .boolean) T_L_law (fun r _ => r = some (.inl 1)) S) (hd : 500 ≤ e) (hI : INV M) (B : LB n M) (nx : ∀ M2, INV M2 → Kp M M2 → S 1573 [some (.inr (90, 0, 0)), some (.inr (0, 0, 0)), some (.inr (30, 0, 0)), some (.inl (nI n))] [] M2) : S 446 [some (.inr (90, 0, 0)), some (.inr (0, 0, 0)), some (.inr (30, 0, 0)), some (.inl (nI n))] [] M := by
  iterate 6 refine hS _ _ _ _ ?_
  refine ⟨B.1, ?_⟩
  skip
  refine hS _ _ _ _ ?_
  refine Td_mono PR _ _ (Nat.le_refl _) _ _ _ _ _ ?_ (op_deal M hI e hd)
  rintro r M1 ⟨v, rfl, kp, td⟩
  have B1 := B.kp kp
  iterate 6 refine hS _ _ _ _ ?_
  refine ⟨B1.1, ?_⟩
  skip
  refine hS _ _ _ _ ?_
  rw [kp.1]
  refine Td_mono PR _ _ (Nat.le_refl _) _ _ _ _ _ ?_ td
  rintro r2 M2 ⟨rfl, hI2, kp2⟩
  refine hS _ _ _ _ ?_
  refine And.intro (fun h464 => ?_) (fun h464 => ?_)
  · exact nx M2 hI2 (kp.tr kp2)
  · exact (h464 rfl).elim
theorem lw_seed (hS : Clo (Td PR e) (some .boolean) T_L_law (fun r _ => r = some (.inl 1)) S) (hd : 500 ≤ e) (hI : INV M) (B : LB n M) (nx : ∀ M2, INV M2 → Kp M M2 → S 1573 [some (.inr (90, 0, 0)), some (.inr (0, 0, 0)), some (.inr (30, 0, 0)), some (.inl (nI n))] [] M2) : S 469 [some (.inr (90, 0, 0)), some (.inr (0, 0, 0)), some (.inr (30, 0, 0)), some (.inl (nI n))] [] M := by
  iterate 6 refine hS _ _ _ _ ?_
  refine ⟨B.1, ?_⟩
  skip
  refine hS _ _ _ _ ?_
  refine Td_mono PR _ _ (Nat.le_refl _) _ _ _ _ _ ?_ (op_seed M hI e hd)
  rintro r M1 ⟨v, rfl, kp, td⟩
  have B1 := B.kp kp
  iterate 6 refine hS _ _ _ _ ?_
  refine ⟨B1.1, ?_⟩
  skip
  refine hS _ _ _ _ ?_
  rw [kp.1]
  refine Td_mono PR _ _ (Nat.le_refl _) _ _ _ _ _ ?_ td
  rintro r2 M2 ⟨rfl, hI2, kp2⟩
  refine hS _ _ _ _ ?_
  refine And.intro (fun h487 => ?_) (fun h487 => ?_)
  · exact nx M2 hI2 (kp.tr kp2)
  · exact (h487 rfl).elim
theorem lw_one (hS : Clo (Td PR e) (some .boolean) T_L_law (fun r _ => r = some (.inl 1)) S) (hd : 500 ≤ e) (hI : INV M) (B : LB n M) (nx : ∀ M2, INV M2 → Kp M M2 → S 1573 [some (.inr (90, 0, 0)), some (.inr (0, 0, 0)), some (.inr (30, 0, 0)), some (.inl (nI n))] [] M2) : S 492 [some (.inr (90, 0, 0)), some (.inr (0, 0, 0)), some (.inr (30, 0, 0)), some (.inl (nI n))] [] M := by
  iterate 6 refine hS _ _ _ _ ?_
  refine ⟨B.1, ?_⟩
  skip
  iterate 5 refine hS _ _ _ _ ?_
  refine ⟨B.2.1, ?_⟩
  skip
  refine hS _ _ _ _ ?_
  refine Td_mono PR _ _ (Nat.le_refl _) _ _ _ _ _ ?_ (op_one M hI e hd)
  rintro r M1 ⟨v, rfl, kp, td⟩
  have B1 := B.kp kp
  iterate 6 refine hS _ _ _ _ ?_
  refine ⟨B1.1, ?_⟩
  skip
  iterate 5 refine hS _ _ _ _ ?_
  refine ⟨B1.2.1, ?_⟩
  skip
  refine hS _ _ _ _ ?_
  rw [kp.1]
  refine Td_mono PR _ _ (Nat.le_refl _) _ _ _ _ _ ?_ td
  rintro r2 M2 ⟨rfl, hI2, kp2⟩
  refine hS _ _ _ _ ?_
  refine And.intro (fun h520 => ?_) (fun h520 => ?_)
  · exact nx M2 hI2 (kp.tr kp2)
  · exact (h520 rfl).elim
theorem lw_folk (hS : Clo (Td PR e) (some .boolean) T_L_law (fun r _ => r = some (.inl 1)) S) (hd : 500 ≤ e) (hI : INV M) (B : LB n M) (nx : ∀ M2, INV M2 → Kp M M2 → S 1573 [some (.inr (90, 0, 0)), some (.inr (0, 0, 0)), some (.inr (30, 0, 0)), some (.inl (nI n))] [] M2) : S 525 [some (.inr (90, 0, 0)), some (.inr (0, 0, 0)), some (.inr (30, 0, 0)), some (.inl (nI n))] [] M := by
  iterate 6 refine hS _ _ _ _ ?_
  refine ⟨B.1, ?_⟩
  skip
  iterate 5 refine hS _ _ _ _ ?_
  refine ⟨B.2.1, ?_⟩
  skip
  refine hS _ _ _ _ ?_
  refine Td_mono PR _ _ (Nat.le_refl _) _ _ _ _ _ ?_ (op_folk M hI e hd)
  rintro r M1 ⟨v, rfl, kp, td⟩
  have B1 := B.kp kp
  iterate 6 refine hS _ _ _ _ ?_
  refine ⟨B1.1, ?_⟩
  skip
  iterate 5 refine hS _ _ _ _ ?_
  refine ⟨B1.2.1, ?_⟩
  skip
  refine hS _ _ _ _ ?_
  rw [kp.1]
  refine Td_mono PR _ _ (Nat.le_refl _) _ _ _ _ _ ?_ td
  rintro r2 M2 ⟨rfl, hI2, kp2⟩
  refine hS _ _ _ _ ?_
  refine And.intro (fun h553 => ?_) (fun h553 => ?_)
  · exact nx M2 hI2 (kp.tr kp2)
  · exact (h553 rfl).elim
theorem lw_sends (hS : Clo (Td PR e) (some .boolean) T_L_law (fun r _ => r = some (.inl 1)) S) (hd : 500 ≤ e) (hI : INV M) (B : LB n M) (nx : ∀ M2, INV M2 → Kp M M2 → S 1573 [some (.inr (90, 0, 0)), some (.inr (0, 0, 0)), some (.inr (30, 0, 0)), some (.inl (nI n))] [] M2) : S 558 [some (.inr (90, 0, 0)), some (.inr (0, 0, 0)), some (.inr (30, 0, 0)), some (.inl (nI n))] [] M := by
  iterate 6 refine hS _ _ _ _ ?_
  refine ⟨B.1, ?_⟩
  skip
  iterate 5 refine hS _ _ _ _ ?_
  refine ⟨B.2.1, ?_⟩
  skip
  iterate 5 refine hS _ _ _ _ ?_
  refine ⟨B.2.2.1, ?_⟩
  skip
  refine hS _ _ _ _ ?_
  refine Td_mono PR _ _ (Nat.le_refl _) _ _ _ _ _ ?_ (op_sends M hI e hd)
  rintro r M1 ⟨v, rfl, kp, td⟩
  have B1 := B.kp kp
  iterate 6 refine hS _ _ _ _ ?_
  refine ⟨B1.1, ?_⟩
  skip
  iterate 5 refine hS _ _ _ _ ?_
  refine ⟨B1.2.1, ?_⟩
  skip
  iterate 5 refine hS _ _ _ _ ?_
  refine ⟨B1.2.2.1, ?_⟩
  skip
  refine hS _ _ _ _ ?_
  rw [kp.1]
  refine Td_mono PR _ _ (Nat.le_refl _) _ _ _ _ _ ?_ td
  rintro r2 M2 ⟨rfl, hI2, kp2⟩
  refine hS _ _ _ _ ?_
  refine And.intro (fun h596 => ?_) (fun h596 => ?_)
  · exact nx M2 hI2 (kp.tr kp2)
  · exact (h596 rfl).elim
theorem lw_who (hS : Clo (Td PR e) (some .boolean) T_L_law (fun r _ => r = some (.inl 1)) S) (hd : 500 ≤ e) (hI : INV M) (B : LB n M) (nx : ∀ M2, INV M2 → Kp M M2 → S 1573 [some (.inr (90, 0, 0)), some (.inr (0, 0, 0)), some (.inr (30, 0, 0)), some (.inl (nI n))] [] M2) : S 601 [some (.inr (90, 0, 0)), some (.inr (0, 0, 0)), some (.inr (30, 0, 0)), some (.inl (nI n))] [] M := by
  iterate 6 refine hS _ _ _ _ ?_
  refine ⟨B.1, ?_⟩
  skip
  refine hS _ _ _ _ ?_
  refine Td_mono PR _ _ (Nat.le_refl _) _ _ _ _ _ ?_ (op_who M hI e hd)
  rintro r M1 ⟨v, rfl, kp, td⟩
  have B1 := B.kp kp
  iterate 6 refine hS _ _ _ _ ?_
  refine ⟨B1.1, ?_⟩
  skip
  refine hS _ _ _ _ ?_
  rw [kp.1]
  refine Td_mono PR _ _ (Nat.le_refl _) _ _ _ _ _ ?_ td
  rintro r2 M2 ⟨rfl, hI2, kp2⟩
  refine hS _ _ _ _ ?_
  refine And.intro (fun h619 => ?_) (fun h619 => ?_)
  · exact nx M2 hI2 (kp.tr kp2)
  · exact (h619 rfl).elim
theorem lw_nights (hS : Clo (Td PR e) (some .boolean) T_L_law (fun r _ => r = some (.inl 1)) S) (hd : 500 ≤ e) (hI : INV M) (B : LB n M) (nx : ∀ M2, INV M2 → Kp M M2 → S 1573 [some (.inr (90, 0, 0)), some (.inr (0, 0, 0)), some (.inr (30, 0, 0)), some (.inl (nI n))] [] M2) : S 624 [some (.inr (90, 0, 0)), some (.inr (0, 0, 0)), some (.inr (30, 0, 0)), some (.inl (nI n))] [] M := by
  iterate 6 refine hS _ _ _ _ ?_
  refine ⟨B.1, ?_⟩
  skip
  refine hS _ _ _ _ ?_
  refine Td_mono PR _ _ (Nat.le_refl _) _ _ _ _ _ ?_ (op_nights M hI e hd)
  rintro r M1 ⟨v, rfl, kp, td⟩
  have B1 := B.kp kp
  iterate 6 refine hS _ _ _ _ ?_
  refine ⟨B1.1, ?_⟩
  skip
  refine hS _ _ _ _ ?_
  rw [kp.1]
  refine Td_mono PR _ _ (Nat.le_refl _) _ _ _ _ _ ?_ td
  rintro r2 M2 ⟨rfl, hI2, kp2⟩
  refine hS _ _ _ _ ?_
  refine And.intro (fun h642 => ?_) (fun h642 => ?_)
  · exact nx M2 hI2 (kp.tr kp2)
  · exact (h642 rfl).elim
theorem lw_land (hS : Clo (Td PR e) (some .boolean) T_L_law (fun r _ => r = some (.inl 1)) S) (hd : 500 ≤ e) (hI : INV M) (B : LB n M) (nx : ∀ M2, INV M2 → Kp M M2 → S 1573 [some (.inr (90, 0, 0)), some (.inr (0, 0, 0)), some (.inr (30, 0, 0)), some (.inl (nI n))] [] M2) : S 647 [some (.inr (90, 0, 0)), some (.inr (0, 0, 0)), some (.inr (30, 0, 0)), some (.inl (nI n))] [] M := by
  iterate 6 refine hS _ _ _ _ ?_
  refine ⟨B.1, ?_⟩
  skip
  refine hS _ _ _ _ ?_
  refine Td_mono PR _ _ (Nat.le_refl _) _ _ _ _ _ ?_ (op_land M hI e hd)
  rintro r M1 ⟨v, rfl, kp, td⟩
  have B1 := B.kp kp
  iterate 6 refine hS _ _ _ _ ?_
  refine ⟨B1.1, ?_⟩
  skip
  refine hS _ _ _ _ ?_
  rw [kp.1]
  refine Td_mono PR _ _ (Nat.le_refl _) _ _ _ _ _ ?_ td
  rintro r2 M2 ⟨rfl, hI2, kp2⟩
  refine hS _ _ _ _ ?_
  refine And.intro (fun h665 => ?_) (fun h665 => ?_)
  · exact nx M2 hI2 (kp.tr kp2)
  · exact (h665 rfl).elim
theorem lw_reach (hS : Clo (Td PR e) (some .boolean) T_L_law (fun r _ => r = some (.inl 1)) S) (hd : 500 ≤ e) (hI : INV M) (B : LB n M) (nx : ∀ M2, INV M2 → Kp M M2 → S 1573 [some (.inr (90, 0, 0)), some (.inr (0, 0, 0)), some (.inr (30, 0, 0)), some (.inl (nI n))] [] M2) : S 670 [some (.inr (90, 0, 0)), some (.inr (0, 0, 0)), some (.inr (30, 0, 0)), some (.inl (nI n))] [] M := by
  iterate 6 refine hS _ _ _ _ ?_
  refine ⟨B.1, ?_⟩
  skip
  refine hS _ _ _ _ ?_
  refine Td_mono PR _ _ (Nat.le_refl _) _ _ _ _ _ ?_ (op_reach M hI e hd)
  rintro r M1 ⟨v, rfl, kp, td⟩
  have B1 := B.kp kp
  iterate 6 refine hS _ _ _ _ ?_
  refine ⟨B1.1, ?_⟩
  skip
  refine hS _ _ _ _ ?_
  rw [kp.1]
  refine Td_mono PR _ _ (Nat.le_refl _) _ _ _ _ _ ?_ td
  rintro r2 M2 ⟨rfl, hI2, kp2⟩
  refine hS _ _ _ _ ?_
  refine And.intro (fun h688 => ?_) (fun h688 => ?_)
  · exact nx M2 hI2 (kp.tr kp2)
  · exact (h688 rfl).elim
theorem lw_way (hS : Clo (Td PR e) (some .boolean) T_L_law (fun r _ => r = some (.inl 1)) S) (hd : 500 ≤ e) (hI : INV M) (B : LB n M) (nx : ∀ M2, INV M2 → Kp M M2 → S 1573 [some (.inr (90, 0, 0)), some (.inr (0, 0, 0)), some (.inr (30, 0, 0)), some (.inl (nI n))] [] M2) : S 693 [some (.inr (90, 0, 0)), some (.inr (0, 0, 0)), some (.inr (30, 0, 0)), some (.inl (nI n))] [] M := by
  iterate 6 refine hS _ _ _ _ ?_
  refine ⟨B.1, ?_⟩
  skip
  iterate 5 refine hS _ _ _ _ ?_
  refine ⟨B.2.1, ?_⟩
  skip
  refine hS _ _ _ _ ?_
  refine Td_mono PR _ _ (Nat.le_refl _) _ _ _ _ _ ?_ (op_way M hI e hd)
  rintro r M1 ⟨v, rfl, kp, td⟩
  have B1 := B.kp kp
  iterate 6 refine hS _ _ _ _ ?_
  refine ⟨B1.1, ?_⟩
  skip
  iterate 5 refine hS _ _ _ _ ?_
  refine ⟨B1.2.1, ?_⟩
  skip
  refine hS _ _ _ _ ?_
  rw [kp.1]
  refine Td_mono PR _ _ (Nat.le_refl _) _ _ _ _ _ ?_ td
  rintro r2 M2 ⟨rfl, hI2, kp2⟩
  refine hS _ _ _ _ ?_
  refine And.intro (fun h721 => ?_) (fun h721 => ?_)
  · exact nx M2 hI2 (kp.tr kp2)
  · exact (h721 rfl).elim
theorem lw_lacks (hS : Clo (Td PR e) (some .boolean) T_L_law (fun r _ => r = some (.inl 1)) S) (hd : 500 ≤ e) (hI : INV M) (B : LB n M) (nx : ∀ M2, INV M2 → Kp M M2 → S 1573 [some (.inr (90, 0, 0)), some (.inr (0, 0, 0)), some (.inr (30, 0, 0)), some (.inl (nI n))] [] M2) : S 726 [some (.inr (90, 0, 0)), some (.inr (0, 0, 0)), some (.inr (30, 0, 0)), some (.inl (nI n))] [] M := by
  iterate 2 refine hS _ _ _ _ ?_
  refine Td_mono PR _ _ (Nat.le_refl _) _ _ _ _ _ ?_ (op_lacks M hI e hd)
  rintro r M1 ⟨v, rfl, kp, td⟩
  have B1 := B.kp kp
  iterate 2 refine hS _ _ _ _ ?_
  refine Td_mono PR _ _ (Nat.le_refl _) _ _ _ _ _ ?_ td
  rintro r2 M2 ⟨rfl, hI2, kp2⟩
  refine hS _ _ _ _ ?_
  refine And.intro (fun h734 => ?_) (fun h734 => ?_)
  · exact nx M2 hI2 (kp.tr kp2)
  · exact (h734 rfl).elim
theorem lw_missed (hS : Clo (Td PR e) (some .boolean) T_L_law (fun r _ => r = some (.inl 1)) S) (hd : 500 ≤ e) (hI : INV M) (B : LB n M) (nx : ∀ M2, INV M2 → Kp M M2 → S 1573 [some (.inr (90, 0, 0)), some (.inr (0, 0, 0)), some (.inr (30, 0, 0)), some (.inl (nI n))] [] M2) : S 739 [some (.inr (90, 0, 0)), some (.inr (0, 0, 0)), some (.inr (30, 0, 0)), some (.inl (nI n))] [] M := by
  iterate 6 refine hS _ _ _ _ ?_
  refine ⟨B.1, ?_⟩
  skip
  refine hS _ _ _ _ ?_
  refine Td_mono PR _ _ (Nat.le_refl _) _ _ _ _ _ ?_ (op_missed M hI e hd)
  rintro r M1 ⟨v, rfl, kp, td⟩
  have B1 := B.kp kp
  iterate 6 refine hS _ _ _ _ ?_
  refine ⟨B1.1, ?_⟩
  skip
  refine hS _ _ _ _ ?_
  rw [kp.1]
  refine Td_mono PR _ _ (Nat.le_refl _) _ _ _ _ _ ?_ td
  rintro r2 M2 ⟨rfl, hI2, kp2⟩
  refine hS _ _ _ _ ?_
  refine And.intro (fun h757 => ?_) (fun h757 => ?_)
  · exact nx M2 hI2 (kp.tr kp2)
  · exact (h757 rfl).elim
theorem lw_behind (hS : Clo (Td PR e) (some .boolean) T_L_law (fun r _ => r = some (.inl 1)) S) (hd : 500 ≤ e) (hI : INV M) (B : LB n M) (nx : ∀ M2, INV M2 → Kp M M2 → S 1573 [some (.inr (90, 0, 0)), some (.inr (0, 0, 0)), some (.inr (30, 0, 0)), some (.inl (nI n))] [] M2) : S 762 [some (.inr (90, 0, 0)), some (.inr (0, 0, 0)), some (.inr (30, 0, 0)), some (.inl (nI n))] [] M := by
  iterate 6 refine hS _ _ _ _ ?_
  refine ⟨B.1, ?_⟩
  skip
  iterate 5 refine hS _ _ _ _ ?_
  refine ⟨B.2.1, ?_⟩
  skip
  refine hS _ _ _ _ ?_
  refine Td_mono PR _ _ (Nat.le_refl _) _ _ _ _ _ ?_ (op_behind M hI e hd)
  rintro r M1 ⟨v, rfl, kp, td⟩
  have B1 := B.kp kp
  iterate 6 refine hS _ _ _ _ ?_
  refine ⟨B1.1, ?_⟩
  skip
  iterate 5 refine hS _ _ _ _ ?_
  refine ⟨B1.2.1, ?_⟩
  skip
  refine hS _ _ _ _ ?_
  rw [kp.1]
  refine Td_mono PR _ _ (Nat.le_refl _) _ _ _ _ _ ?_ td
  rintro r2 M2 ⟨rfl, hI2, kp2⟩
  refine hS _ _ _ _ ?_
  refine And.intro (fun h790 => ?_) (fun h790 => ?_)
  · exact nx M2 hI2 (kp.tr kp2)
  · exact (h790 rfl).elim
theorem lw_home (hS : Clo (Td PR e) (some .boolean) T_L_law (fun r _ => r = some (.inl 1)) S) (hd : 500 ≤ e) (hI : INV M) (B : LB n M) (nx : ∀ M2, INV M2 → Kp M M2 → S 1573 [some (.inr (90, 0, 0)), some (.inr (0, 0, 0)), some (.inr (30, 0, 0)), some (.inl (nI n))] [] M2) : S 795 [some (.inr (90, 0, 0)), some (.inr (0, 0, 0)), some (.inr (30, 0, 0)), some (.inl (nI n))] [] M := by
  iterate 6 refine hS _ _ _ _ ?_
  refine ⟨B.1, ?_⟩
  skip
  refine hS _ _ _ _ ?_
  refine Td_mono PR _ _ (Nat.le_refl _) _ _ _ _ _ ?_ (op_home M hI e hd)
  rintro r M1 ⟨v, rfl, kp, td⟩
  have B1 := B.kp kp
  iterate 6 refine hS _ _ _ _ ?_
  refine ⟨B1.1, ?_⟩
  skip
  refine hS _ _ _ _ ?_
  rw [kp.1]
  refine Td_mono PR _ _ (Nat.le_refl _) _ _ _ _ _ ?_ td
  rintro r2 M2 ⟨rfl, hI2, kp2⟩
  refine hS _ _ _ _ ?_
  refine And.intro (fun h813 => ?_) (fun h813 => ?_)
  · exact nx M2 hI2 (kp.tr kp2)
  · exact (h813 rfl).elim
theorem lw_brought (hS : Clo (Td PR e) (some .boolean) T_L_law (fun r _ => r = some (.inl 1)) S) (hd : 500 ≤ e) (hI : INV M) (B : LB n M) (nx : ∀ M2, INV M2 → Kp M M2 → S 1573 [some (.inr (90, 0, 0)), some (.inr (0, 0, 0)), some (.inr (30, 0, 0)), some (.inl (nI n))] [] M2) : S 818 [some (.inr (90, 0, 0)), some (.inr (0, 0, 0)), some (.inr (30, 0, 0)), some (.inl (nI n))] [] M := by
  iterate 6 refine hS _ _ _ _ ?_
  refine ⟨B.1, ?_⟩
  skip
  iterate 5 refine hS _ _ _ _ ?_
  refine ⟨B.2.1, ?_⟩
  skip
  refine hS _ _ _ _ ?_
  refine Td_mono PR _ _ (Nat.le_refl _) _ _ _ _ _ ?_ (op_brought M hI e hd)
  rintro r M1 ⟨v, rfl, kp, td⟩
  have B1 := B.kp kp
  iterate 6 refine hS _ _ _ _ ?_
  refine ⟨B1.1, ?_⟩
  skip
  iterate 5 refine hS _ _ _ _ ?_
  refine ⟨B1.2.1, ?_⟩
  skip
  refine hS _ _ _ _ ?_
  rw [kp.1]
  refine Td_mono PR _ _ (Nat.le_refl _) _ _ _ _ _ ?_ td
  rintro r2 M2 ⟨rfl, hI2, kp2⟩
  refine hS _ _ _ _ ?_
  refine And.intro (fun h846 => ?_) (fun h846 => ?_)
  · exact nx M2 hI2 (kp.tr kp2)
  · exact (h846 rfl).elim
theorem lw_belongs (hS : Clo (Td PR e) (some .boolean) T_L_law (fun r _ => r = some (.inl 1)) S) (hd : 500 ≤ e) (hI : INV M) (B : LB n M) (nx : ∀ M2, INV M2 → Kp M M2 → S 1573 [some (.inr (90, 0, 0)), some (.inr (0, 0, 0)), some (.inr (30, 0, 0)), some (.inl (nI n))] [] M2) : S 851 [some (.inr (90, 0, 0)), some (.inr (0, 0, 0)), some (.inr (30, 0, 0)), some (.inl (nI n))] [] M := by
  iterate 6 refine hS _ _ _ _ ?_
  refine ⟨B.1, ?_⟩
  skip
  iterate 5 refine hS _ _ _ _ ?_
  refine ⟨B.2.1, ?_⟩
  skip
  iterate 5 refine hS _ _ _ _ ?_
  refine ⟨B.2.2.1, ?_⟩
  skip
  refine hS _ _ _ _ ?_
  refine Td_mono PR _ _ (Nat.le_refl _) _ _ _ _ _ ?_ (op_belongs M hI e hd)
  rintro r M1 ⟨v, rfl, kp, td⟩
  have B1 := B.kp kp
  iterate 6 refine hS _ _ _ _ ?_
  refine ⟨B1.1, ?_⟩
  skip
  iterate 5 refine hS _ _ _ _ ?_
  refine ⟨B1.2.1, ?_⟩
  skip
  iterate 5 refine hS _ _ _ _ ?_
  refine ⟨B1.2.2.1, ?_⟩
  skip
  refine hS _ _ _ _ ?_
  rw [kp.1]
  refine Td_mono PR _ _ (Nat.le_refl _) _ _ _ _ _ ?_ td
  rintro r2 M2 ⟨rfl, hI2, kp2⟩
  refine hS _ _ _ _ ?_
  refine And.intro (fun h889 => ?_) (fun h889 => ?_)
  · exact nx M2 hI2 (kp.tr kp2)
  · exact (h889 rfl).elim
theorem lw_becomes (hS : Clo (Td PR e) (some .boolean) T_L_law (fun r _ => r = some (.inl 1)) S) (hd : 500 ≤ e) (hI : INV M) (B : LB n M) (nx : ∀ M2, INV M2 → Kp M M2 → S 1573 [some (.inr (90, 0, 0)), some (.inr (0, 0, 0)), some (.inr (30, 0, 0)), some (.inl (nI n))] [] M2) : S 894 [some (.inr (90, 0, 0)), some (.inr (0, 0, 0)), some (.inr (30, 0, 0)), some (.inl (nI n))] [] M := by
  iterate 6 refine hS _ _ _ _ ?_
  refine ⟨B.1, ?_⟩
  skip
  iterate 5 refine hS _ _ _ _ ?_
  refine ⟨B.2.1, ?_⟩
  skip
  iterate 5 refine hS _ _ _ _ ?_
  refine ⟨B.2.2.1, ?_⟩
  skip
  refine hS _ _ _ _ ?_
  refine Td_mono PR _ _ (Nat.le_refl _) _ _ _ _ _ ?_ (op_becomes M hI e hd)
  rintro r M1 ⟨v, rfl, kp, td⟩
  have B1 := B.kp kp
  iterate 6 refine hS _ _ _ _ ?_
  refine ⟨B1.1, ?_⟩
  skip
  iterate 5 refine hS _ _ _ _ ?_
  refine ⟨B1.2.1, ?_⟩
  skip
  iterate 5 refine hS _ _ _ _ ?_
  refine ⟨B1.2.2.1, ?_⟩
  skip
  refine hS _ _ _ _ ?_
  rw [kp.1]
  refine Td_mono PR _ _ (Nat.le_refl _) _ _ _ _ _ ?_ td
  rintro r2 M2 ⟨rfl, hI2, kp2⟩
  refine hS _ _ _ _ ?_
  refine And.intro (fun h932 => ?_) (fun h932 => ?_)
  · exact nx M2 hI2 (kp.tr kp2)
  · exact (h932 rfl).elim
theorem lw_whose (hS : Clo (Td PR e) (some .boolean) T_L_law (fun r _ => r = some (.inl 1)) S) (hd : 500 ≤ e) (hI : INV M) (B : LB n M) (nx : ∀ M2, INV M2 → Kp M M2 → S 1573 [some (.inr (90, 0, 0)), some (.inr (0, 0, 0)), some (.inr (30, 0, 0)), some (.inl (nI n))] [] M2) : S 937 [some (.inr (90, 0, 0)), some (.inr (0, 0, 0)), some (.inr (30, 0, 0)), some (.inl (nI n))] [] M := by
  iterate 6 refine hS _ _ _ _ ?_
  refine ⟨B.1, ?_⟩
  skip
  iterate 5 refine hS _ _ _ _ ?_
  refine ⟨B.2.1, ?_⟩
  skip
  refine hS _ _ _ _ ?_
  refine Td_mono PR _ _ (Nat.le_refl _) _ _ _ _ _ ?_ (op_whose M hI e hd)
  rintro r M1 ⟨v, rfl, kp, td⟩
  have B1 := B.kp kp
  iterate 6 refine hS _ _ _ _ ?_
  refine ⟨B1.1, ?_⟩
  skip
  iterate 5 refine hS _ _ _ _ ?_
  refine ⟨B1.2.1, ?_⟩
  skip
  refine hS _ _ _ _ ?_
  rw [kp.1]
  refine Td_mono PR _ _ (Nat.le_refl _) _ _ _ _ _ ?_ td
  rintro r2 M2 ⟨rfl, hI2, kp2⟩
  refine hS _ _ _ _ ?_
  refine And.intro (fun h965 => ?_) (fun h965 => ?_)
  · exact nx M2 hI2 (kp.tr kp2)
  · exact (h965 rfl).elim
theorem lw_fee (hS : Clo (Td PR e) (some .boolean) T_L_law (fun r _ => r = some (.inl 1)) S) (hd : 500 ≤ e) (hI : INV M) (B : LB n M) (nx : ∀ M2, INV M2 → Kp M M2 → S 1573 [some (.inr (90, 0, 0)), some (.inr (0, 0, 0)), some (.inr (30, 0, 0)), some (.inl (nI n))] [] M2) : S 970 [some (.inr (90, 0, 0)), some (.inr (0, 0, 0)), some (.inr (30, 0, 0)), some (.inl (nI n))] [] M := by
  iterate 2 refine hS _ _ _ _ ?_
  refine Td_mono PR _ _ (Nat.le_refl _) _ _ _ _ _ ?_ (op_fee M hI e hd)
  rintro r M1 ⟨v, rfl, kp, td⟩
  have B1 := B.kp kp
  iterate 2 refine hS _ _ _ _ ?_
  refine Td_mono PR _ _ (Nat.le_refl _) _ _ _ _ _ ?_ td
  rintro r2 M2 ⟨rfl, hI2, kp2⟩
  refine hS _ _ _ _ ?_
  refine And.intro (fun h978 => ?_) (fun h978 => ?_)
  · exact nx M2 hI2 (kp.tr kp2)
  · exact (h978 rfl).elim
theorem lw_fine (hS : Clo (Td PR e) (some .boolean) T_L_law (fun r _ => r = some (.inl 1)) S) (hd : 500 ≤ e) (hI : INV M) (B : LB n M) (nx : ∀ M2, INV M2 → Kp M M2 → S 1573 [some (.inr (90, 0, 0)), some (.inr (0, 0, 0)), some (.inr (30, 0, 0)), some (.inl (nI n))] [] M2) : S 983 [some (.inr (90, 0, 0)), some (.inr (0, 0, 0)), some (.inr (30, 0, 0)), some (.inl (nI n))] [] M := by
  iterate 6 refine hS _ _ _ _ ?_
  refine ⟨B.1, ?_⟩
  skip
  refine hS _ _ _ _ ?_
  refine Td_mono PR _ _ (Nat.le_refl _) _ _ _ _ _ ?_ (op_fine M hI e hd)
  rintro r M1 ⟨v, rfl, kp, td⟩
  have B1 := B.kp kp
  iterate 6 refine hS _ _ _ _ ?_
  refine ⟨B1.1, ?_⟩
  skip
  refine hS _ _ _ _ ?_
  rw [kp.1]
  refine Td_mono PR _ _ (Nat.le_refl _) _ _ _ _ _ ?_ td
  rintro r2 M2 ⟨rfl, hI2, kp2⟩
  refine hS _ _ _ _ ?_
  refine And.intro (fun h1001 => ?_) (fun h1001 => ?_)
  · exact nx M2 hI2 (kp.tr kp2)
  · exact (h1001 rfl).elim
theorem lw_feed (hS : Clo (Td PR e) (some .boolean) T_L_law (fun r _ => r = some (.inl 1)) S) (hd : 500 ≤ e) (hI : INV M) (B : LB n M) (nx : ∀ M2, INV M2 → Kp M M2 → S 1573 [some (.inr (90, 0, 0)), some (.inr (0, 0, 0)), some (.inr (30, 0, 0)), some (.inl (nI n))] [] M2) : S 1006 [some (.inr (90, 0, 0)), some (.inr (0, 0, 0)), some (.inr (30, 0, 0)), some (.inl (nI n))] [] M := by
  iterate 6 refine hS _ _ _ _ ?_
  refine ⟨B.1, ?_⟩
  skip
  iterate 5 refine hS _ _ _ _ ?_
  refine ⟨B.2.1, ?_⟩
  skip
  iterate 5 refine hS _ _ _ _ ?_
  refine ⟨B.2.2.1, ?_⟩
  skip
  refine hS _ _ _ _ ?_
  refine Td_mono PR _ _ (Nat.le_refl _) _ _ _ _ _ ?_ (op_feed M hI e hd)
  rintro r M1 ⟨v, rfl, kp, td⟩
  have B1 := B.kp kp
  iterate 6 refine hS _ _ _ _ ?_
  refine ⟨B1.1, ?_⟩
  skip
  iterate 5 refine hS _ _ _ _ ?_
  refine ⟨B1.2.1, ?_⟩
  skip
  iterate 5 refine hS _ _ _ _ ?_
  refine ⟨B1.2.2.1, ?_⟩
  skip
  refine hS _ _ _ _ ?_
  rw [kp.1]
  refine Td_mono PR _ _ (Nat.le_refl _) _ _ _ _ _ ?_ td
  rintro r2 M2 ⟨rfl, hI2, kp2⟩
  refine hS _ _ _ _ ?_
  refine And.intro (fun h1044 => ?_) (fun h1044 => ?_)
  · exact nx M2 hI2 (kp.tr kp2)
  · exact (h1044 rfl).elim
theorem lw_trim (hS : Clo (Td PR e) (some .boolean) T_L_law (fun r _ => r = some (.inl 1)) S) (hd : 500 ≤ e) (hI : INV M) (B : LB n M) (nx : ∀ M2, INV M2 → Kp M M2 → S 1573 [some (.inr (90, 0, 0)), some (.inr (0, 0, 0)), some (.inr (30, 0, 0)), some (.inl (nI n))] [] M2) : S 1049 [some (.inr (90, 0, 0)), some (.inr (0, 0, 0)), some (.inr (30, 0, 0)), some (.inl (nI n))] [] M := by
  iterate 6 refine hS _ _ _ _ ?_
  refine ⟨B.1, ?_⟩
  skip
  refine hS _ _ _ _ ?_
  refine Td_mono PR _ _ (Nat.le_refl _) _ _ _ _ _ ?_ (op_trim M hI e hd)
  rintro r M1 ⟨v, rfl, kp, td⟩
  have B1 := B.kp kp
  iterate 6 refine hS _ _ _ _ ?_
  refine ⟨B1.1, ?_⟩
  skip
  refine hS _ _ _ _ ?_
  rw [kp.1]
  refine Td_mono PR _ _ (Nat.le_refl _) _ _ _ _ _ ?_ td
  rintro r2 M2 ⟨rfl, hI2, kp2⟩
  refine hS _ _ _ _ ?_
  refine And.intro (fun h1067 => ?_) (fun h1067 => ?_)
  · exact nx M2 hI2 (kp.tr kp2)
  · exact (h1067 rfl).elim
theorem lw_text (hS : Clo (Td PR e) (some .boolean) T_L_law (fun r _ => r = some (.inl 1)) S) (HT : OpOK 94 195 []) (hd : 500 ≤ e) (hI : INV M) (B : LB n M) (nx : ∀ M2, INV M2 → Kp M M2 → S 1573 [some (.inr (90, 0, 0)), some (.inr (0, 0, 0)), some (.inr (30, 0, 0)), some (.inl (nI n))] [] M2) : S 1072 [some (.inr (90, 0, 0)), some (.inr (0, 0, 0)), some (.inr (30, 0, 0)), some (.inl (nI n))] [] M := by
  iterate 2 refine hS _ _ _ _ ?_
  refine Td_mono PR _ _ (Nat.le_refl _) _ _ _ _ _ ?_ (HT M hI e hd)
  rintro r M1 ⟨v, rfl, kp, td⟩
  have B1 := B.kp kp
  iterate 2 refine hS _ _ _ _ ?_
  refine Td_mono PR _ _ (Nat.le_refl _) _ _ _ _ _ ?_ td
  rintro r2 M2 ⟨rfl, hI2, kp2⟩
  refine hS _ _ _ _ ?_
  refine And.intro (fun h1080 => ?_) (fun h1080 => ?_)
  · exact nx M2 hI2 (kp.tr kp2)
  · exact (h1080 rfl).elim
theorem lw_textTold (hS : Clo (Td PR e) (some .boolean) T_L_law (fun r _ => r = some (.inl 1)) S) (hd : 500 ≤ e) (hI : INV M) (B : LB n M) (nx : ∀ M2, INV M2 → Kp M M2 → S 1573 [some (.inr (90, 0, 0)), some (.inr (0, 0, 0)), some (.inr (30, 0, 0)), some (.inl (nI n))] [] M2) : S 1085 [some (.inr (90, 0, 0)), some (.inr (0, 0, 0)), some (.inr (30, 0, 0)), some (.inl (nI n))] [] M := by
  iterate 6 refine hS _ _ _ _ ?_
  refine ⟨B.1, ?_⟩
  skip
  iterate 5 refine hS _ _ _ _ ?_
  refine ⟨B.2.1, ?_⟩
  skip
  refine hS _ _ _ _ ?_
  refine Td_mono PR _ _ (Nat.le_refl _) _ _ _ _ _ ?_ (op_textTold M hI e hd)
  rintro r M1 ⟨v, rfl, kp, td⟩
  have B1 := B.kp kp
  iterate 6 refine hS _ _ _ _ ?_
  refine ⟨B1.1, ?_⟩
  skip
  iterate 5 refine hS _ _ _ _ ?_
  refine ⟨B1.2.1, ?_⟩
  skip
  refine hS _ _ _ _ ?_
  rw [kp.1]
  refine Td_mono PR _ _ (Nat.le_refl _) _ _ _ _ _ ?_ td
  rintro r2 M2 ⟨rfl, hI2, kp2⟩
  refine hS _ _ _ _ ?_
  refine And.intro (fun h1113 => ?_) (fun h1113 => ?_)
  · exact nx M2 hI2 (kp.tr kp2)
  · exact (h1113 rfl).elim
theorem lw_why (hS : Clo (Td PR e) (some .boolean) T_L_law (fun r _ => r = some (.inl 1)) S) (hd : 500 ≤ e) (hI : INV M) (B : LB n M) (nx : ∀ M2, INV M2 → Kp M M2 → S 1573 [some (.inr (90, 0, 0)), some (.inr (0, 0, 0)), some (.inr (30, 0, 0)), some (.inl (nI n))] [] M2) : S 1118 [some (.inr (90, 0, 0)), some (.inr (0, 0, 0)), some (.inr (30, 0, 0)), some (.inl (nI n))] [] M := by
  iterate 6 refine hS _ _ _ _ ?_
  refine ⟨B.1, ?_⟩
  skip
  refine hS _ _ _ _ ?_
  refine Td_mono PR _ _ (Nat.le_refl _) _ _ _ _ _ ?_ (op_why M hI e hd)
  rintro r M1 ⟨v, rfl, kp, td⟩
  have B1 := B.kp kp
  iterate 6 refine hS _ _ _ _ ?_
  refine ⟨B1.1, ?_⟩
  skip
  refine hS _ _ _ _ ?_
  rw [kp.1]
  refine Td_mono PR _ _ (Nat.le_refl _) _ _ _ _ _ ?_ td
  rintro r2 M2 ⟨rfl, hI2, kp2⟩
  refine hS _ _ _ _ ?_
  refine And.intro (fun h1136 => ?_) (fun h1136 => ?_)
  · exact nx M2 hI2 (kp.tr kp2)
  · exact (h1136 rfl).elim
theorem lw_sheet (hS : Clo (Td PR e) (some .boolean) T_L_law (fun r _ => r = some (.inl 1)) S) (hd : 500 ≤ e) (hI : INV M) (B : LB n M) (nx : ∀ M2, INV M2 → Kp M M2 → S 1573 [some (.inr (90, 0, 0)), some (.inr (0, 0, 0)), some (.inr (30, 0, 0)), some (.inl (nI n))] [] M2) : S 1141 [some (.inr (90, 0, 0)), some (.inr (0, 0, 0)), some (.inr (30, 0, 0)), some (.inl (nI n))] [] M := by
  iterate 6 refine hS _ _ _ _ ?_
  refine ⟨B.1, ?_⟩
  skip
  iterate 5 refine hS _ _ _ _ ?_
  refine ⟨B.2.1, ?_⟩
  skip
  iterate 5 refine hS _ _ _ _ ?_
  refine ⟨B.2.2.1, ?_⟩
  skip
  refine hS _ _ _ _ ?_
  refine Td_mono PR _ _ (Nat.le_refl _) _ _ _ _ _ ?_ (op_sheet M hI e hd)
  rintro r M1 ⟨v, rfl, kp, td⟩
  have B1 := B.kp kp
  iterate 6 refine hS _ _ _ _ ?_
  refine ⟨B1.1, ?_⟩
  skip
  iterate 5 refine hS _ _ _ _ ?_
  refine ⟨B1.2.1, ?_⟩
  skip
  iterate 5 refine hS _ _ _ _ ?_
  refine ⟨B1.2.2.1, ?_⟩
  skip
  refine hS _ _ _ _ ?_
  rw [kp.1]
  refine Td_mono PR _ _ (Nat.le_refl _) _ _ _ _ _ ?_ td
  rintro r2 M2 ⟨rfl, hI2, kp2⟩
  refine hS _ _ _ _ ?_
  refine And.intro (fun h1179 => ?_) (fun h1179 => ?_)
  · exact nx M2 hI2 (kp.tr kp2)
  · exact (h1179 rfl).elim
theorem lw_mark (hS : Clo (Td PR e) (some .boolean) T_L_law (fun r _ => r = some (.inl 1)) S) (hd : 500 ≤ e) (hI : INV M) (B : LB n M) (nx : ∀ M2, INV M2 → Kp M M2 → S 1573 [some (.inr (90, 0, 0)), some (.inr (0, 0, 0)), some (.inr (30, 0, 0)), some (.inl (nI n))] [] M2) : S 1184 [some (.inr (90, 0, 0)), some (.inr (0, 0, 0)), some (.inr (30, 0, 0)), some (.inl (nI n))] [] M := by
  iterate 6 refine hS _ _ _ _ ?_
  refine ⟨B.1, ?_⟩
  skip
  iterate 5 refine hS _ _ _ _ ?_
  refine ⟨B.2.1, ?_⟩
  skip
  iterate 5 refine hS _ _ _ _ ?_
  refine ⟨B.2.2.1, ?_⟩
  skip
  refine hS _ _ _ _ ?_
  refine Td_mono PR _ _ (Nat.le_refl _) _ _ _ _ _ ?_ (op_mark M hI e hd)
  rintro r M1 ⟨v, rfl, kp, td⟩
  have B1 := B.kp kp
  iterate 6 refine hS _ _ _ _ ?_
  refine ⟨B1.1, ?_⟩
  skip
  iterate 5 refine hS _ _ _ _ ?_
  refine ⟨B1.2.1, ?_⟩
  skip
  iterate 5 refine hS _ _ _ _ ?_
  refine ⟨B1.2.2.1, ?_⟩
  skip
  refine hS _ _ _ _ ?_
  rw [kp.1]
  refine Td_mono PR _ _ (Nat.le_refl _) _ _ _ _ _ ?_ td
  rintro r2 M2 ⟨rfl, hI2, kp2⟩
  refine hS _ _ _ _ ?_
  refine And.intro (fun h1222 => ?_) (fun h1222 => ?_)
  · exact nx M2 hI2 (kp.tr kp2)
  · exact (h1222 rfl).elim
theorem lw_pour (hS : Clo (Td PR e) (some .boolean) T_L_law (fun r _ => r = some (.inl 1)) S) (hd : 500 ≤ e) (hI : INV M) (B : LB n M) (nx : ∀ M2, INV M2 → Kp M M2 → S 1573 [some (.inr (90, 0, 0)), some (.inr (0, 0, 0)), some (.inr (30, 0, 0)), some (.inl (nI n))] [] M2) : S 1227 [some (.inr (90, 0, 0)), some (.inr (0, 0, 0)), some (.inr (30, 0, 0)), some (.inl (nI n))] [] M := by
  iterate 6 refine hS _ _ _ _ ?_
  refine ⟨B.1, ?_⟩
  skip
  refine hS _ _ _ _ ?_
  refine Td_mono PR _ _ (Nat.le_refl _) _ _ _ _ _ ?_ (op_pour M hI e hd)
  rintro r M1 ⟨v, rfl, kp, td⟩
  have B1 := B.kp kp
  iterate 6 refine hS _ _ _ _ ?_
  refine ⟨B1.1, ?_⟩
  skip
  refine hS _ _ _ _ ?_
  rw [kp.1]
  refine Td_mono PR _ _ (Nat.le_refl _) _ _ _ _ _ ?_ td
  rintro r2 M2 ⟨rfl, hI2, kp2⟩
  refine hS _ _ _ _ ?_
  refine And.intro (fun h1245 => ?_) (fun h1245 => ?_)
  · exact nx M2 hI2 (kp.tr kp2)
  · exact (h1245 rfl).elim
theorem lw_reads (hS : Clo (Td PR e) (some .boolean) T_L_law (fun r _ => r = some (.inl 1)) S) (hd : 500 ≤ e) (hI : INV M) (B : LB n M) (nx : ∀ M2, INV M2 → Kp M M2 → S 1573 [some (.inr (90, 0, 0)), some (.inr (0, 0, 0)), some (.inr (30, 0, 0)), some (.inl (nI n))] [] M2) : S 1250 [some (.inr (90, 0, 0)), some (.inr (0, 0, 0)), some (.inr (30, 0, 0)), some (.inl (nI n))] [] M := by
  iterate 6 refine hS _ _ _ _ ?_
  refine ⟨B.1, ?_⟩
  skip
  refine hS _ _ _ _ ?_
  refine Td_mono PR _ _ (Nat.le_refl _) _ _ _ _ _ ?_ (op_reads M hI e hd)
  rintro r M1 ⟨v, rfl, kp, td⟩
  have B1 := B.kp kp
  iterate 6 refine hS _ _ _ _ ?_
  refine ⟨B1.1, ?_⟩
  skip
  refine hS _ _ _ _ ?_
  rw [kp.1]
  refine Td_mono PR _ _ (Nat.le_refl _) _ _ _ _ _ ?_ td
  rintro r2 M2 ⟨rfl, hI2, kp2⟩
  refine hS _ _ _ _ ?_
  refine And.intro (fun h1268 => ?_) (fun h1268 => ?_)
  · exact nx M2 hI2 (kp.tr kp2)
  · exact (h1268 rfl).elim
theorem lw_copy (hS : Clo (Td PR e) (some .boolean) T_L_law (fun r _ => r = some (.inl 1)) S) (hd : 500 ≤ e) (hI : INV M) (B : LB n M) (nx : ∀ M2, INV M2 → Kp M M2 → S 1573 [some (.inr (90, 0, 0)), some (.inr (0, 0, 0)), some (.inr (30, 0, 0)), some (.inl (nI n))] [] M2) : S 1273 [some (.inr (90, 0, 0)), some (.inr (0, 0, 0)), some (.inr (30, 0, 0)), some (.inl (nI n))] [] M := by
  iterate 6 refine hS _ _ _ _ ?_
  refine ⟨B.1, ?_⟩
  skip
  iterate 5 refine hS _ _ _ _ ?_
  refine ⟨B.2.1, ?_⟩
  skip
  iterate 5 refine hS _ _ _ _ ?_
  refine ⟨B.2.2.1, ?_⟩
  skip
  iterate 5 refine hS _ _ _ _ ?_
  refine ⟨B.2.2.2.1, ?_⟩
  skip
  iterate 5 refine hS _ _ _ _ ?_
  refine ⟨B.2.2.2.2, ?_⟩
  skip
  refine hS _ _ _ _ ?_
  refine Td_mono PR _ _ (Nat.le_refl _) _ _ _ _ _ ?_ (op_copy M hI e hd)
  rintro r M1 ⟨v, rfl, kp, td⟩
  have B1 := B.kp kp
  iterate 6 refine hS _ _ _ _ ?_
  refine ⟨B1.1, ?_⟩
  skip
  iterate 5 refine hS _ _ _ _ ?_
  refine ⟨B1.2.1, ?_⟩
  skip
  iterate 5 refine hS _ _ _ _ ?_
  refine ⟨B1.2.2.1, ?_⟩
  skip
  iterate 5 refine hS _ _ _ _ ?_
  refine ⟨B1.2.2.2.1, ?_⟩
  skip
  iterate 5 refine hS _ _ _ _ ?_
  refine ⟨B1.2.2.2.2, ?_⟩
  skip
  refine hS _ _ _ _ ?_
  rw [kp.1]
  refine Td_mono PR _ _ (Nat.le_refl _) _ _ _ _ _ ?_ td
  rintro r2 M2 ⟨rfl, hI2, kp2⟩
  refine hS _ _ _ _ ?_
  refine And.intro (fun h1331 => ?_) (fun h1331 => ?_)
  · exact nx M2 hI2 (kp.tr kp2)
  · exact (h1331 rfl).elim
theorem lw_lay (hS : Clo (Td PR e) (some .boolean) T_L_law (fun r _ => r = some (.inl 1)) S) (hd : 500 ≤ e) (hI : INV M) (B : LB n M) (nx : ∀ M2, INV M2 → Kp M M2 → S 1573 [some (.inr (90, 0, 0)), some (.inr (0, 0, 0)), some (.inr (30, 0, 0)), some (.inl (nI n))] [] M2) : S 1336 [some (.inr (90, 0, 0)), some (.inr (0, 0, 0)), some (.inr (30, 0, 0)), some (.inl (nI n))] [] M := by
  iterate 6 refine hS _ _ _ _ ?_
  refine ⟨B.1, ?_⟩
  skip
  iterate 5 refine hS _ _ _ _ ?_
  refine ⟨B.2.1, ?_⟩
  skip
  iterate 5 refine hS _ _ _ _ ?_
  refine ⟨B.2.2.1, ?_⟩
  skip
  refine hS _ _ _ _ ?_
  refine Td_mono PR _ _ (Nat.le_refl _) _ _ _ _ _ ?_ (op_lay M hI e hd)
  rintro r M1 ⟨v, rfl, kp, td⟩
  have B1 := B.kp kp
  iterate 6 refine hS _ _ _ _ ?_
  refine ⟨B1.1, ?_⟩
  skip
  iterate 5 refine hS _ _ _ _ ?_
  refine ⟨B1.2.1, ?_⟩
  skip
  iterate 5 refine hS _ _ _ _ ?_
  refine ⟨B1.2.2.1, ?_⟩
  skip
  refine hS _ _ _ _ ?_
  rw [kp.1]
  refine Td_mono PR _ _ (Nat.le_refl _) _ _ _ _ _ ?_ td
  rintro r2 M2 ⟨rfl, hI2, kp2⟩
  refine hS _ _ _ _ ?_
  refine And.intro (fun h1374 => ?_) (fun h1374 => ?_)
  · exact nx M2 hI2 (kp.tr kp2)
  · exact (h1374 rfl).elim
theorem lw_ask (hS : Clo (Td PR e) (some .boolean) T_L_law (fun r _ => r = some (.inl 1)) S) (hd : 500 ≤ e) (hI : INV M) (B : LB n M) (nx : ∀ M2, INV M2 → Kp M M2 → S 1573 [some (.inr (90, 0, 0)), some (.inr (0, 0, 0)), some (.inr (30, 0, 0)), some (.inl (nI n))] [] M2) : S 1379 [some (.inr (90, 0, 0)), some (.inr (0, 0, 0)), some (.inr (30, 0, 0)), some (.inl (nI n))] [] M := by
  iterate 6 refine hS _ _ _ _ ?_
  refine ⟨B.1, ?_⟩
  skip
  iterate 5 refine hS _ _ _ _ ?_
  refine ⟨B.2.1, ?_⟩
  skip
  refine hS _ _ _ _ ?_
  refine Td_mono PR _ _ (Nat.le_refl _) _ _ _ _ _ ?_ (op_ask M hI e hd)
  rintro r M1 ⟨v, rfl, kp, td⟩
  have B1 := B.kp kp
  iterate 6 refine hS _ _ _ _ ?_
  refine ⟨B1.1, ?_⟩
  skip
  iterate 5 refine hS _ _ _ _ ?_
  refine ⟨B1.2.1, ?_⟩
  skip
  refine hS _ _ _ _ ?_
  rw [kp.1]
  refine Td_mono PR _ _ (Nat.le_refl _) _ _ _ _ _ ?_ td
  rintro r2 M2 ⟨rfl, hI2, kp2⟩
  refine hS _ _ _ _ ?_
  refine And.intro (fun h1407 => ?_) (fun h1407 => ?_)
  · exact nx M2 hI2 (kp.tr kp2)
  · exact (h1407 rfl).elim
theorem lw_item (hS : Clo (Td PR e) (some .boolean) T_L_law (fun r _ => r = some (.inl 1)) S) (hd : 500 ≤ e) (hI : INV M) (B : LB n M) (nx : ∀ M2, INV M2 → Kp M M2 → S 1573 [some (.inr (90, 0, 0)), some (.inr (0, 0, 0)), some (.inr (30, 0, 0)), some (.inl (nI n))] [] M2) : S 1412 [some (.inr (90, 0, 0)), some (.inr (0, 0, 0)), some (.inr (30, 0, 0)), some (.inl (nI n))] [] M := by
  iterate 6 refine hS _ _ _ _ ?_
  refine ⟨B.1, ?_⟩
  skip
  iterate 5 refine hS _ _ _ _ ?_
  refine ⟨B.2.1, ?_⟩
  skip
  refine hS _ _ _ _ ?_
  refine Td_mono PR _ _ (Nat.le_refl _) _ _ _ _ _ ?_ (op_item M hI e hd)
  rintro r M1 ⟨v, rfl, kp, td⟩
  have B1 := B.kp kp
  iterate 6 refine hS _ _ _ _ ?_
  refine ⟨B1.1, ?_⟩
  skip
  iterate 5 refine hS _ _ _ _ ?_
  refine ⟨B1.2.1, ?_⟩
  skip
  refine hS _ _ _ _ ?_
  rw [kp.1]
  refine Td_mono PR _ _ (Nat.le_refl _) _ _ _ _ _ ?_ td
  rintro r2 M2 ⟨rfl, hI2, kp2⟩
  refine hS _ _ _ _ ?_
  refine And.intro (fun h1440 => ?_) (fun h1440 => ?_)
  · exact nx M2 hI2 (kp.tr kp2)
  · exact (h1440 rfl).elim
theorem lw_rest (hS : Clo (Td PR e) (some .boolean) T_L_law (fun r _ => r = some (.inl 1)) S) (hd : 500 ≤ e) (hI : INV M) (B : LB n M) (nx : ∀ M2, INV M2 → Kp M M2 → S 1573 [some (.inr (90, 0, 0)), some (.inr (0, 0, 0)), some (.inr (30, 0, 0)), some (.inl (nI n))] [] M2) : S 1445 [some (.inr (90, 0, 0)), some (.inr (0, 0, 0)), some (.inr (30, 0, 0)), some (.inl (nI n))] [] M := by
  iterate 6 refine hS _ _ _ _ ?_
  refine ⟨B.1, ?_⟩
  skip
  iterate 5 refine hS _ _ _ _ ?_
  refine ⟨B.2.1, ?_⟩
  skip
  refine hS _ _ _ _ ?_
  refine Td_mono PR _ _ (Nat.le_refl _) _ _ _ _ _ ?_ (op_rest M hI e hd)
  rintro r M1 ⟨v, rfl, kp, td⟩
  have B1 := B.kp kp
  iterate 6 refine hS _ _ _ _ ?_
  refine ⟨B1.1, ?_⟩
  skip
  iterate 5 refine hS _ _ _ _ ?_
  refine ⟨B1.2.1, ?_⟩
  skip
  refine hS _ _ _ _ ?_
  rw [kp.1]
  refine Td_mono PR _ _ (Nat.le_refl _) _ _ _ _ _ ?_ td
  rintro r2 M2 ⟨rfl, hI2, kp2⟩
  refine hS _ _ _ _ ?_
  refine And.intro (fun h1473 => ?_) (fun h1473 => ?_)
  · exact nx M2 hI2 (kp.tr kp2)
  · exact (h1473 rfl).elim
theorem lw_tell (hS : Clo (Td PR e) (some .boolean) T_L_law (fun r _ => r = some (.inl 1)) S) (hd : 500 ≤ e) (hI : INV M) (B : LB n M) (nx : ∀ M2, INV M2 → Kp M M2 → S 1573 [some (.inr (90, 0, 0)), some (.inr (0, 0, 0)), some (.inr (30, 0, 0)), some (.inl (nI n))] [] M2) : S 1478 [some (.inr (90, 0, 0)), some (.inr (0, 0, 0)), some (.inr (30, 0, 0)), some (.inl (nI n))] [] M := by
  iterate 6 refine hS _ _ _ _ ?_
  refine ⟨B.1, ?_⟩
  skip
  refine hS _ _ _ _ ?_
  refine Td_mono PR _ _ (Nat.le_refl _) _ _ _ _ _ ?_ (op_tell M hI e hd)
  rintro r M1 ⟨v, rfl, kp, td⟩
  have B1 := B.kp kp
  iterate 6 refine hS _ _ _ _ ?_
  refine ⟨B1.1, ?_⟩
  skip
  refine hS _ _ _ _ ?_
  rw [kp.1]
  refine Td_mono PR _ _ (Nat.le_refl _) _ _ _ _ _ ?_ td
  rintro r2 M2 ⟨rfl, hI2, kp2⟩
  refine hS _ _ _ _ ?_
  refine And.intro (fun h1496 => ?_) (fun h1496 => ?_)
  · exact nx M2 hI2 (kp.tr kp2)
  · exact (h1496 rfl).elim
theorem lw_check (hS : Clo (Td PR e) (some .boolean) T_L_law (fun r _ => r = some (.inl 1)) S) (hd : 500 ≤ e) (hI : INV M) (B : LB n M) (nx : ∀ M2, INV M2 → Kp M M2 → S 1573 [some (.inr (90, 0, 0)), some (.inr (0, 0, 0)), some (.inr (30, 0, 0)), some (.inl (nI n))] [] M2) : S 1501 [some (.inr (90, 0, 0)), some (.inr (0, 0, 0)), some (.inr (30, 0, 0)), some (.inl (nI n))] [] M := by
  iterate 6 refine hS _ _ _ _ ?_
  refine ⟨B.1, ?_⟩
  skip
  refine hS _ _ _ _ ?_
  refine Td_mono PR _ _ (Nat.le_refl _) _ _ _ _ _ ?_ (op_check M hI e hd)
  rintro r M1 ⟨v, rfl, kp, td⟩
  have B1 := B.kp kp
  iterate 6 refine hS _ _ _ _ ?_
  refine ⟨B1.1, ?_⟩
  skip
  refine hS _ _ _ _ ?_
  rw [kp.1]
  refine Td_mono PR _ _ (Nat.le_refl _) _ _ _ _ _ ?_ td
  rintro r2 M2 ⟨rfl, hI2, kp2⟩
  refine hS _ _ _ _ ?_
  refine And.intro (fun h1519 => ?_) (fun h1519 => ?_)
  · exact nx M2 hI2 (kp.tr kp2)
  · exact (h1519 rfl).elim
theorem lw_keep (hS : Clo (Td PR e) (some .boolean) T_L_law (fun r _ => r = some (.inl 1)) S) (hd : 500 ≤ e) (hI : INV M) (B : LB n M) (nx : ∀ M2, INV M2 → Kp M M2 → S 1573 [some (.inr (90, 0, 0)), some (.inr (0, 0, 0)), some (.inr (30, 0, 0)), some (.inl (nI n))] [] M2) : S 1524 [some (.inr (90, 0, 0)), some (.inr (0, 0, 0)), some (.inr (30, 0, 0)), some (.inl (nI n))] [] M := by
  iterate 2 refine hS _ _ _ _ ?_
  refine Td_mono PR _ _ (Nat.le_refl _) _ _ _ _ _ ?_ (op_keep M hI e hd)
  rintro r M1 ⟨v, rfl, kp, td⟩
  have B1 := B.kp kp
  iterate 2 refine hS _ _ _ _ ?_
  refine Td_mono PR _ _ (Nat.le_refl _) _ _ _ _ _ ?_ td
  rintro r2 M2 ⟨rfl, hI2, kp2⟩
  refine hS _ _ _ _ ?_
  refine And.intro (fun h1532 => ?_) (fun h1532 => ?_)
  · exact nx M2 hI2 (kp.tr kp2)
  · exact (h1532 rfl).elim
theorem lw_back (hS : Clo (Td PR e) (some .boolean) T_L_law (fun r _ => r = some (.inl 1)) S) (hd : 500 ≤ e) (hI : INV M) (B : LB n M) (nx : ∀ M2, INV M2 → Kp M M2 → S 1573 [some (.inr (90, 0, 0)), some (.inr (0, 0, 0)), some (.inr (30, 0, 0)), some (.inl (nI n))] [] M2) : S 1537 [some (.inr (90, 0, 0)), some (.inr (0, 0, 0)), some (.inr (30, 0, 0)), some (.inl (nI n))] [] M := by
  iterate 2 refine hS _ _ _ _ ?_
  refine Td_mono PR _ _ (Nat.le_refl _) _ _ _ _ _ ?_ (op_back M hI e hd)
  rintro r M1 ⟨v, rfl, kp, td⟩
  have B1 := B.kp kp
  iterate 2 refine hS _ _ _ _ ?_
  refine Td_mono PR _ _ (Nat.le_refl _) _ _ _ _ _ ?_ td
  rintro r2 M2 ⟨rfl, hI2, kp2⟩
  refine hS _ _ _ _ ?_
  refine And.intro (fun h1545 => ?_) (fun h1545 => ?_)
  · exact nx M2 hI2 (kp.tr kp2)
  · exact (h1545 rfl).elim
theorem lw_count (hS : Clo (Td PR e) (some .boolean) T_L_law (fun r _ => r = some (.inl 1)) S) (hd : 500 ≤ e) (hI : INV M) (B : LB n M) (nx : ∀ M2, INV M2 → Kp M M2 → S 1573 [some (.inr (90, 0, 0)), some (.inr (0, 0, 0)), some (.inr (30, 0, 0)), some (.inl (nI n))] [] M2) : S 1550 [some (.inr (90, 0, 0)), some (.inr (0, 0, 0)), some (.inr (30, 0, 0)), some (.inl (nI n))] [] M := by
  iterate 6 refine hS _ _ _ _ ?_
  refine ⟨B.1, ?_⟩
  skip
  refine hS _ _ _ _ ?_
  refine Td_mono PR _ _ (Nat.le_refl _) _ _ _ _ _ ?_ (op_count M hI e hd)
  rintro r M1 ⟨v, rfl, kp, td⟩
  have B1 := B.kp kp
  iterate 6 refine hS _ _ _ _ ?_
  refine ⟨B1.1, ?_⟩
  skip
  refine hS _ _ _ _ ?_
  rw [kp.1]
  refine Td_mono PR _ _ (Nat.le_refl _) _ _ _ _ _ ?_ td
  rintro r2 M2 ⟨rfl, hI2, kp2⟩
  refine hS _ _ _ _ ?_
  refine And.intro (fun h1568 => ?_) (fun h1568 => ?_)
  · exact nx M2 hI2 (kp.tr kp2)
  · exact (h1568 rfl).elim
end L35
theorem lawRun_of (HT : OpOK 94 195 []) (H0 : ∀ xs L, L ≤ 3072 → INV (M0 xs L)) : LawRun := by
  intro xs L hL
  refine ⟨1000, by omega, fun S hS => ?_⟩
  have lt6 : ∀ a, a ≤ 3072 → (nI L - 6 < nI a ↔ L < a + 6) := by
    intro a ha
    by_cases z : 6 ≤ L
    · rw [show nI L - 6 = nI (L - 6) from nI_sub (b := 6) z]
      constructor
      · intro y
        exact Nat.lt_of_not_le fun w => absurd y (nI_nlt (by omega) (by omega))
      · intro y
        exact nI_lt (by omega) (by omega)
    · refine ⟨fun _ => by omega, fun _ => ?_⟩
      have h : nI L - 6 < 0 := by
        obtain rfl | rfl | rfl | rfl | rfl | rfl : L = 0 ∨ L = 1 ∨ L = 2 ∨ L = 3 ∨ L = 4 ∨ L = 5 := by omega
        all_goals decide
      exact Int32.lt_of_lt_of_le h (Int32.not_lt.mp (nI_pos (by omega)))
  have lp : ∀ M, INV M → M 91 0 0 0 = nI L → S 18 [some (.inr (90, 0, 0)), some (.inr (0, 0, 0)), some (.inr (30, 0, 0)), some (.inl (nI (6 * 0)))] [] M := by
    intro M hI e91
    refine lp_up (T := fun i => ∀ M, INV M → M 91 0 0 0 = nI L → S 18 [some (.inr (90, 0, 0)), some (.inr (0, 0, 0)), some (.inr (30, 0, 0)), some (.inl (nI (6 * i)))] [] M) (N := L / 6) ?_ ?_ 0 (Nat.zero_le _) M hI e91
    · intro M hI e91
      have hg : M 91 0 0 0 - 6 < nI (6 * (L / 6)) := by rw [e91]; exact (lt6 _ (by omega)).mpr (by omega)
      iterate 6 refine hS _ _ _ _ ?_
      refine And.intro (fun h24 => ?_) (fun h24 => ?_)
      · iterate 2 refine hS _ _ _ _ ?_
        refine ⟨rfl, ?_⟩
        rfl
      · exact absurd hg h24
    · intro i hi ih M hI e91
      have hg : ¬ M 91 0 0 0 - 6 < nI (6 * i) := by rw [e91]; exact fun z => absurd ((lt6 _ (by omega)).mp z) (by omega)
      have hc : (M 91 0 0 0).toNatClampNeg = L := by rw [e91]; exact nI_clamp (by omega)
      have B0 : vp_in (nI (6 * i)) (M 91 0 0 0).toNatClampNeg := by rw [hc]; exact vp_in_nI (by omega) (by omega)
      have B : LB (6 * i) M := by
        unfold LB
        rw [hc]
        exact ⟨by rw [show nI (6 * i) + 1 = nI (6 * i + 1) from nI_add _ 1]; exact vp_in_nI (by omega) (by omega), by rw [show nI (6 * i) + 2 = nI (6 * i + 2) from nI_add _ 2]; exact vp_in_nI (by omega) (by omega), by rw [show nI (6 * i) + 3 = nI (6 * i + 3) from nI_add _ 3]; exact vp_in_nI (by omega) (by omega), by rw [show nI (6 * i) + 4 = nI (6 * i + 4) from nI_add _ 4]; exact vp_in_nI (by omega) (by omega), by rw [show nI (6 * i) + 5 = nI (6 * i + 5) from nI_add _ 5]; exact vp_in_nI (by omega) (by omega)⟩
      have nx : ∀ M2, INV M2 → Kp M M2 → S 1573 [some (.inr (90, 0, 0)), some (.inr (0, 0, 0)), some (.inr (30, 0, 0)), some (.inl (nI (6 * i)))] [] M2 := by
        intro M2 hI2 kp
        have e6 : nI (6 * i) + 6 = nI (6 * (i + 1)) := nI_add _ 6
        iterate 2 refine hS _ _ _ _ ?_
        rw [e6]
        exact ih M2 hI2 (by rw [kp.2]; exact e91)
      iterate 6 refine hS _ _ _ _ ?_
      refine And.intro (fun h24 => ?_) (fun h24 => ?_)
      · exact absurd h24 hg
      · iterate 3 refine hS _ _ _ _ ?_
        refine ⟨B0, ?_⟩
        skip
        iterate 3 refine hS _ _ _ _ ?_
        refine And.intro (fun h33_0 => ?_) (fun h33_0 => ?_)
        · exact lw_bed hS (by omega) hI B nx
        refine And.intro (fun h33_1 => ?_) (fun h33_1 => ?_)
        · exact lw_told hS (by omega) hI B nx
        refine And.intro (fun h33_2 => ?_) (fun h33_2 => ?_)
        · exact lw_as hS (by omega) hI B nx
        refine And.intro (fun h33_3 => ?_) (fun h33_3 => ?_)
        · exact lw_turns hS (by omega) hI B nx
        refine And.intro (fun h33_4 => ?_) (fun h33_4 => ?_)
        · exact lw_set hS (by omega) hI B nx
        refine And.intro (fun h33_5 => ?_) (fun h33_5 => ?_)
        · exact lw_carry hS (by omega) hI B nx
        refine And.intro (fun h33_6 => ?_) (fun h33_6 => ?_)
        · exact lw_deal hS (by omega) hI B nx
        refine And.intro (fun h33_7 => ?_) (fun h33_7 => ?_)
        · exact lw_seed hS (by omega) hI B nx
        refine And.intro (fun h33_8 => ?_) (fun h33_8 => ?_)
        · exact lw_one hS (by omega) hI B nx
        refine And.intro (fun h33_9 => ?_) (fun h33_9 => ?_)
        · exact lw_folk hS (by omega) hI B nx
        refine And.intro (fun h33_10 => ?_) (fun h33_10 => ?_)
        · exact lw_sends hS (by omega) hI B nx
        refine And.intro (fun h33_11 => ?_) (fun h33_11 => ?_)
        · exact lw_who hS (by omega) hI B nx
        refine And.intro (fun h33_12 => ?_) (fun h33_12 => ?_)
        · exact lw_nights hS (by omega) hI B nx
        refine And.intro (fun h33_13 => ?_) (fun h33_13 => ?_)
        · exact lw_land hS (by omega) hI B nx
        refine And.intro (fun h33_14 => ?_) (fun h33_14 => ?_)
        · exact lw_reach hS (by omega) hI B nx
        refine And.intro (fun h33_15 => ?_) (fun h33_15 => ?_)
        · exact lw_way hS (by omega) hI B nx
        refine And.intro (fun h33_16 => ?_) (fun h33_16 => ?_)
        · exact lw_lacks hS (by omega) hI B nx
        refine And.intro (fun h33_17 => ?_) (fun h33_17 => ?_)
        · exact lw_missed hS (by omega) hI B nx
        refine And.intro (fun h33_18 => ?_) (fun h33_18 => ?_)
        · exact lw_behind hS (by omega) hI B nx
        refine And.intro (fun h33_19 => ?_) (fun h33_19 => ?_)
        · exact lw_home hS (by omega) hI B nx
        refine And.intro (fun h33_20 => ?_) (fun h33_20 => ?_)
        · exact lw_brought hS (by omega) hI B nx
        refine And.intro (fun h33_21 => ?_) (fun h33_21 => ?_)
        · exact lw_belongs hS (by omega) hI B nx
        refine And.intro (fun h33_22 => ?_) (fun h33_22 => ?_)
        · exact lw_becomes hS (by omega) hI B nx
        refine And.intro (fun h33_23 => ?_) (fun h33_23 => ?_)
        · exact lw_whose hS (by omega) hI B nx
        refine And.intro (fun h33_24 => ?_) (fun h33_24 => ?_)
        · exact lw_fee hS (by omega) hI B nx
        refine And.intro (fun h33_25 => ?_) (fun h33_25 => ?_)
        · exact lw_fine hS (by omega) hI B nx
        refine And.intro (fun h33_26 => ?_) (fun h33_26 => ?_)
        · exact lw_feed hS (by omega) hI B nx
        refine And.intro (fun h33_27 => ?_) (fun h33_27 => ?_)
        · exact lw_trim hS (by omega) hI B nx
        refine And.intro (fun h33_28 => ?_) (fun h33_28 => ?_)
        · exact lw_text hS HT (by omega) hI B nx
        refine And.intro (fun h33_29 => ?_) (fun h33_29 => ?_)
        · exact lw_textTold hS (by omega) hI B nx
        refine And.intro (fun h33_30 => ?_) (fun h33_30 => ?_)
        · exact lw_why hS (by omega) hI B nx
        refine And.intro (fun h33_31 => ?_) (fun h33_31 => ?_)
        · exact lw_sheet hS (by omega) hI B nx
        refine And.intro (fun h33_32 => ?_) (fun h33_32 => ?_)
        · exact lw_mark hS (by omega) hI B nx
        refine And.intro (fun h33_33 => ?_) (fun h33_33 => ?_)
        · exact lw_pour hS (by omega) hI B nx
        refine And.intro (fun h33_34 => ?_) (fun h33_34 => ?_)
        · exact lw_reads hS (by omega) hI B nx
        refine And.intro (fun h33_35 => ?_) (fun h33_35 => ?_)
        · exact lw_copy hS (by omega) hI B nx
        refine And.intro (fun h33_36 => ?_) (fun h33_36 => ?_)
        · exact lw_lay hS (by omega) hI B nx
        refine And.intro (fun h33_37 => ?_) (fun h33_37 => ?_)
        · exact lw_ask hS (by omega) hI B nx
        refine And.intro (fun h33_38 => ?_) (fun h33_38 => ?_)
        · exact lw_item hS (by omega) hI B nx
        refine And.intro (fun h33_39 => ?_) (fun h33_39 => ?_)
        · exact lw_rest hS (by omega) hI B nx
        refine And.intro (fun h33_40 => ?_) (fun h33_40 => ?_)
        · exact lw_tell hS (by omega) hI B nx
        refine And.intro (fun h33_41 => ?_) (fun h33_41 => ?_)
        · exact lw_check hS (by omega) hI B nx
        refine And.intro (fun h33_42 => ?_) (fun h33_42 => ?_)
        · exact lw_keep hS (by omega) hI B nx
        refine And.intro (fun h33_43 => ?_) (fun h33_43 => ?_)
        · exact lw_back hS (by omega) hI B nx
        refine And.intro (fun h33_44 => ?_) (fun h33_44 => ?_)
        · exact lw_count hS (by omega) hI B nx
        exact nx M hI ⟨rfl, rfl⟩
  iterate 2 refine hS _ _ _ _ ?_
  exact lp _ (H0 xs L hL) rfl
