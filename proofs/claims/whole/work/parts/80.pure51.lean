-- 80.pure51: the reference's steps at a sign and at the end
def tstB (k : Nat) (b : Bool) : Bool := decide (rkN k = 3) || (decide (3 < rkN k) && b)
theorem ng0 : ∀ k, k < 12 → 1 ≤ k → ¬ - nI k = 0 := by decide
theorem sg41 : ∀ k, k < 10 → 1 ≤ k → ¬ sgB k = 41 := by decide
theorem rkN_3 : ∀ k, k < 12 → ¬ nI (rkN k) = 3 → ¬ rkN k = 3 := fun k _ h z => h (by rw [z]; rfl)
section W51
variable {d n ky par : Nat} {M0 : Mem} {Q : PQ} {S : CF} {f : FA} {T : TK} {W : List Nat} {C : List Int32} {te : Nat → Bool}
theorem rl_sign {k : Nat} (hS : Clo (Td PR d) (some .boolean) T_X10_takesE Q S) (hd : 8 ≤ d) (hn : n ≤ 96) (hp : par ≤ 8) (hT : TO n f T) (hs : SG T k) (hok : ¬ (rkN k = 3 ∧ te par = true)) (hno : noF (k :: (seF (rkN k) W C).1) = noF W) (h : RLo S M0 n f 1 (nt f n T) (k :: (seF (rkN k) W C).1) (seF (rkN k) W C).2 par (updB te par (tstB k (te par)))) : RLo S M0 n f 0 T W C par te := by
  intro M o4 hM
  obtain ⟨s1, s2, s3, s4⟩ := hs
  have hlt := hT.lt (by omega)
  have hlen := hM.2.2.2.2.2.1
  have hr := hM.2.2.1
  have e13 : M 30 0 0 13 = 3 := by rw [hM.1.2.2.2.2.1, s1]; rfl
  have e14 : M 30 0 0 14 = sgB k := (hM.1.2.2.2.2.2 (Or.inl s1)).trans s4
  have et : M 55 0 0 par = tsB (te par) := hM.2.2.2.2.1 par (Nat.le_refl _)
  have hrk := rkN_10 k (by omega)
  have hl1 := seF_len (r := rkN k) W C
  have fin : ∀ v, v = tsB (tstB k (te par)) → S 305 [some (.inr (30, 0, 0)), some (.inl (nI par)), some (.inl (nI (noF W))), some (.inl 0), some (.inl (- nI k))] [.inl v, .inl (nI par), .inr (55, 0, 0)] M := by
    intro v hv
    have hz : v = 0 ∨ v = 1 := by rw [hv]; unfold tsB; split <;> simp
    refine hS _ _ _ _ ?_
    refine ⟨(by first | assumption | exact vp_in_nI (by simp only [alen]; omega) (by decide)), hz, ?_⟩
    try rw [nI_clamp (by omega)]
    iterate 3 refine hS _ _ _ _ ?_
    refine sm_rank (by omega) s2 (by omega) ?_
    refine hS _ _ _ _ ?_
    refine sm_settle (r := rkN k) (W := W) (C := C) (by omega) hrk (by omega) (hr.cg (by rw [mz_k (by decide)]) (by rw [mz_k (by decide)]) (mz_k (by decide)) (mz_k (by decide))) (fun M1 g1 g2 => ?_)
    iterate 6 refine hS _ _ _ _ ?_
    rw [show gfv M1 30 0 0 23 = .inl (nI (seF (rkN k) W C).1.length) from congrArg Sum.inl g2.1]
    refine ⟨(by first | assumption | exact vp_in_nI (by simp only [alen]; omega) (by decide)), ?_⟩
    try rw [nI_clamp (by omega)]
    iterate 10 refine hS _ _ _ _ ?_
    refine sm_gox (W := k :: (seF (rkN k) W C).1) (C := (seF (rkN k) W C).2) (par := par) (te := updB te par (tstB k (te par))) (by omega) hn hT (by omega) (hM.pre (by omega) (by omega) (GT.b (GT.a (GT.s (GT.a GT.rf (by omega)) g1) (by omega)) (by omega)) (RS.push g2 s2 (by omega) rfl (by rw [mz_k (by decide), g2.1]; exact (nI_succ _).symm)) ?_ (fun i hi => ?_) (by rw [List.length_cons]; omega)) (fun M2 g3 => ?_)
    · rw [mz_sl (by decide), mz_k (by decide), g1.2 21 (by decide) (by decide), mz_k (by decide), hM.2.2.2.1, seF_lv W _ hr.2.2.1]
    · rw [mz_k (by decide), mz_k (by decide), g1.1 55 (by decide) (by decide)]
      by_cases z : i = par
      · subst z; rw [mz_at, updB_at]; exact hv
      · rw [mz_sl z, updB_ne z]; exact hM.2.2.2.2.1 i hi
    refine hS _ _ _ _ ?_
    skip
    have q := h M2 (some (.inl (- nI k))) g3
    rw [hno] at q
    exact q
  have aft : S 268 [some (.inr (30, 0, 0)), some (.inl (nI par)), some (.inl (nI (noF W))), some (.inl 0), some (.inl (- nI k))] [] M := by
    iterate 5 refine hS _ _ _ _ ?_
    refine sm_rank (by omega) s2 (by omega) ?_
    iterate 2 refine hS _ _ _ _ ?_
    refine And.intro (fun h279 => ?_) (fun h279 => ?_)
    · have z3 : rkN k = 3 := (nI_eq (b := 3) (by omega) (by decide)).mp h279
      iterate 2 refine hS _ _ _ _ ?_
      exact fin 1 (by unfold tstB; rw [z3]; rfl)
    · have z3 : ¬ rkN k = 3 := rkN_3 k (by omega) h279
      iterate 2 refine hS _ _ _ _ ?_
      refine sm_rank (by omega) s2 (by omega) ?_
      iterate 2 refine hS _ _ _ _ ?_
      refine And.intro (fun h288 => ?_) (fun h288 => ?_)
      · have z4 : ¬ 3 < rkN k := fun z => nI_ge (b := rkN k) z (by omega) h288
        refine hS _ _ _ _ ?_
        exact fin 0 (by unfold tstB; rw [decide_eq_false z3, decide_eq_false z4]; rfl)
      · have z4 : 3 < rkN k := Nat.lt_of_not_le fun y => h288 (nI_le (b := 3) y (by omega))
        iterate 4 refine hS _ _ _ _ ?_
        refine ⟨(by first | assumption | exact vp_in_nI (by simp only [alen]; omega) (by decide)), ?_⟩
        try rw [nI_clamp (by omega)]
        refine hS _ _ _ _ ?_
        refine And.intro (fun h297 => ?_) (fun h297 => ?_)
        · rw [et] at h297
          have z5 : te par = false := by cases hb : te par with | false => rfl | true => rw [hb] at h297; exact absurd h297 (by decide)
          refine hS _ _ _ _ ?_
          exact fin 0 (by unfold tstB; rw [decide_eq_false z3, z5, Bool.and_false]; rfl)
        · rw [et] at h297
          have z5 : te par = true := by cases hb : te par with | true => rfl | false => rw [hb] at h297; exact absurd rfl h297
          iterate 2 refine hS _ _ _ _ ?_
          exact fin 1 (by unfold tstB; rw [decide_eq_false z3, decide_eq_true z4, z5]; rfl)
  iterate 2 refine hS _ _ _ _ ?_
  refine And.intro (fun h => absurd h (by decide)) (fun _ => ?_)
  iterate 3 refine hS _ _ _ _ ?_
  refine And.intro (fun h36 => ?_) (fun h36 => ?_)
  · exact absurd (e13.symm.trans h36) (by decide)
  · iterate 2 refine hS _ _ _ _ ?_
    refine And.intro (fun _ => ?_) (fun h => absurd h (by decide))
    iterate 4 refine hS _ _ _ _ ?_
    refine And.intro (fun h185 => ?_) (fun h185 => ?_)
    · exact absurd e13 h185
    · iterate 4 refine hS _ _ _ _ ?_
      refine And.intro (fun h194 => ?_) (fun h194 => ?_)
      · iterate 2 refine hS _ _ _ _ ?_
        refine sm_signHere (n := n) (f := f) (T := T) (by omega) hM.1 hT.1.2.2.1 ?_
        rw [if_pos s1, s4, sgV_B k s3 s2]
        iterate 3 refine hS _ _ _ _ ?_
        refine And.intro (fun h245 => ?_) (fun h245 => ?_)
        · exact absurd h245 (ng0 k (by omega) s2)
        · iterate 2 refine hS _ _ _ _ ?_
          refine sm_rank (by omega) s2 (by omega) ?_
          iterate 2 refine hS _ _ _ _ ?_
          refine And.intro (fun h254 => ?_) (fun h254 => ?_)
          · exact aft
          · have z3 : rkN k = 3 := (nI_eq (b := 3) (by omega) (by decide)).mp h254
            iterate 4 refine hS _ _ _ _ ?_
            refine ⟨(by first | assumption | exact vp_in_nI (by simp only [alen]; omega) (by decide)), ?_⟩
            try rw [nI_clamp (by omega)]
            refine hS _ _ _ _ ?_
            refine And.intro (fun h263 => ?_) (fun h263 => ?_)
            · exact aft
            · rw [et] at h263
              cases hb : te par with
              | true => exact (hok ⟨z3, hb⟩).elim
              | false => rw [hb] at h263; exact absurd rfl h263
      · exact absurd (e14.symm.trans h194) (sg41 k s3 s2)
theorem rl_stop (hS : Clo (Td PR d) (some .boolean) T_X10_takesE Q S) (hd : 8 ≤ d) (hp : par ≤ 8) (hT : TO n f T) (h0 : T.2.2.1 ≠ 0) (hc : ¬ (T.2.2.1 = 1 ∧ T.2.2.2 = 41 ∧ 0 < par)) (hs : ∀ k, SG T k → rkN k = 3 ∧ te par = true) (h : RFa Q M0 n f T) : RLo S M0 n f 0 T W C par te := by
  intro M o4 hM
  obtain ⟨r0, -, -, r3⟩ := rkT_n _ hT.1.2.2.1
  have e13 := hM.1.2.2.2.2.1
  have e14 : T.2.2.1 = 1 → M 30 0 0 14 = T.2.2.2 := fun z => hM.1.2.2.2.2.2 (Or.inl z)
  have et : M 55 0 0 par = tsB (te par) := hM.2.2.2.2.1 par (Nat.le_refl _)
  have hF : Q (some (.inl 0)) M := h M hM.2.2.2.2.2.2 hM.1
  rcases Classical.em (∃ k, SG T k) with ⟨k, hk⟩ | hno
  · obtain ⟨q1, q2⟩ := hs k hk
    obtain ⟨s1, s2, s3, s4⟩ := hk
    iterate 2 refine hS _ _ _ _ ?_
    refine And.intro (fun h => absurd h (by decide)) (fun _ => ?_)
    iterate 3 refine hS _ _ _ _ ?_
    refine And.intro (fun h36 => ?_) (fun h36 => ?_)
    · exact absurd (r0.mp (e13.symm.trans h36)) h0
    · iterate 2 refine hS _ _ _ _ ?_
      refine And.intro (fun _ => ?_) (fun h => absurd h (by decide))
      iterate 4 refine hS _ _ _ _ ?_
      refine And.intro (fun h185 => ?_) (fun h185 => ?_)
      · exact absurd (e13.trans (r3.mpr s1)) h185
      · iterate 4 refine hS _ _ _ _ ?_
        refine And.intro (fun h194 => ?_) (fun h194 => ?_)
        · iterate 2 refine hS _ _ _ _ ?_
          refine sm_signHere (n := n) (f := f) (T := T) (by omega) hM.1 hT.1.2.2.1 ?_
          rw [if_pos s1, s4, sgV_B k s3 s2]
          iterate 3 refine hS _ _ _ _ ?_
          refine And.intro (fun h245 => ?_) (fun h245 => ?_)
          · iterate 2 refine hS _ _ _ _ ?_
            refine ⟨rfl, ?_⟩
            exact hF
          · iterate 2 refine hS _ _ _ _ ?_
            refine sm_rank (by omega) s2 (by omega) ?_
            iterate 2 refine hS _ _ _ _ ?_
            refine And.intro (fun h254 => ?_) (fun h254 => ?_)
            · exact absurd (show nI (rkN k) = 3 by rw [q1]; rfl) h254
            · iterate 4 refine hS _ _ _ _ ?_
              refine ⟨(by first | assumption | exact vp_in_nI (by simp only [alen]; omega) (by decide)), ?_⟩
              try rw [nI_clamp (by omega)]
              refine hS _ _ _ _ ?_
              refine And.intro (fun h263 => ?_) (fun h263 => ?_)
              · rw [et, q2] at h263
                exact absurd h263 (by decide)
              · iterate 2 refine hS _ _ _ _ ?_
                refine ⟨rfl, ?_⟩
                exact hF
        · exact absurd (s4.symm.trans ((e14 s1).symm.trans h194)) (sg41 k s3 s2)
  · have hv : (if T.2.2.1 = 1 then sgV T.2.2.2 else 0) = 0 := by
      split
      · exact sgV_0 (fun k k1 k2 z => hno ⟨k, by assumption, k1, k2, z⟩)
      · rfl
    iterate 2 refine hS _ _ _ _ ?_
    refine And.intro (fun h => absurd h (by decide)) (fun _ => ?_)
    iterate 3 refine hS _ _ _ _ ?_
    refine And.intro (fun h36 => ?_) (fun h36 => ?_)
    · exact absurd (r0.mp (e13.symm.trans h36)) h0
    · iterate 2 refine hS _ _ _ _ ?_
      refine And.intro (fun _ => ?_) (fun h => absurd h (by decide))
      iterate 4 refine hS _ _ _ _ ?_
      refine And.intro (fun h185 => ?_) (fun h185 => ?_)
      · iterate 2 refine hS _ _ _ _ ?_
        refine sm_signHere (n := n) (f := f) (T := T) (by omega) hM.1 hT.1.2.2.1 ?_
        rw [hv]
        iterate 3 refine hS _ _ _ _ ?_
        refine And.intro (fun h245 => ?_) (fun h245 => ?_)
        · iterate 2 refine hS _ _ _ _ ?_
          refine ⟨rfl, ?_⟩
          exact hF
        · exact absurd rfl h245
      · have w1 : T.2.2.1 = 1 := r3.mp (e13.symm.trans h185)
        iterate 4 refine hS _ _ _ _ ?_
        refine And.intro (fun h194 => ?_) (fun h194 => ?_)
        · iterate 2 refine hS _ _ _ _ ?_
          refine sm_signHere (n := n) (f := f) (T := T) (by omega) hM.1 hT.1.2.2.1 ?_
          rw [hv]
          iterate 3 refine hS _ _ _ _ ?_
          refine And.intro (fun h245 => ?_) (fun h245 => ?_)
          · iterate 2 refine hS _ _ _ _ ?_
            refine ⟨rfl, ?_⟩
            exact hF
          · exact absurd rfl h245
        · iterate 2 refine hS _ _ _ _ ?_
          refine And.intro (fun h198 => ?_) (fun h198 => ?_)
          · iterate 2 refine hS _ _ _ _ ?_
            refine sm_signHere (n := n) (f := f) (T := T) (by omega) hM.1 hT.1.2.2.1 ?_
            rw [hv]
            iterate 3 refine hS _ _ _ _ ?_
            refine And.intro (fun h245 => ?_) (fun h245 => ?_)
            · iterate 2 refine hS _ _ _ _ ?_
              refine ⟨rfl, ?_⟩
              exact hF
            · exact absurd rfl h245
          · exact (hc ⟨w1, (e14 w1).symm.trans h194, Nat.lt_of_not_le fun y => h198 (nI_le (b := 0) y (by omega))⟩).elim
theorem rl_end (hS : Clo (Td PR d) (some .boolean) T_X10_takesE Q S) (hd : 8 ≤ d) (hn : n ≤ 96) (hp : par ≤ 8) (hT : TO n f T) (h0 : T.2.2.1 = 0) (h1 : par = 0 → ∀ M1, FY M0 M1 → RT M1 n f T → RS M1 (seF 0 W C).1 (seF 0 W C).2 → M1 30 0 0 21 = nI (lvN C) → W.length + C.length ≤ 96 → Q (some (.inl 1)) M1) (h : par ≠ 0 → RFa Q M0 n f T) : RLo S M0 n f 0 T W C par te := by
  intro M o4 hM
  have e13 : M 30 0 0 13 = 0 := by rw [hM.1.2.2.2.2.1, h0]; rfl
  have hlen := hM.2.2.2.2.2.1
  have hT1 := hT.1.1
  have hT2 := hT.1.2.1
  iterate 2 refine hS _ _ _ _ ?_
  refine And.intro (fun h => absurd h (by decide)) (fun _ => ?_)
  iterate 3 refine hS _ _ _ _ ?_
  refine And.intro (fun h36 => ?_) (fun h36 => ?_)
  · iterate 3 refine hS _ _ _ _ ?_
    refine sm_settle (r := 0) (W := W) (C := C) (by omega) (by decide) (by omega) hM.2.2.1 (fun M1 g1 g2 => ?_)
    have gT := GT.s GT.rf g1
    iterate 2 refine hS _ _ _ _ ?_
    refine And.intro (fun h351 => ?_) (fun h351 => ?_)
    · have hp0 : par ≠ 0 := fun z => h351 (by rw [z]; rfl)
      iterate 2 refine hS _ _ _ _ ?_
      refine ⟨rfl, ?_⟩
      exact h hp0 M1 (gT.fy hM.2.2.2.2.2.2) (gT.rt hM.1)
    · have hp0 : par = 0 := (nI_eq (b := 0) (by omega) (by decide)).mp h351
      iterate 3 refine hS _ _ _ _ ?_
      refine ⟨rfl, ?_⟩
      exact h1 hp0 M1 (gT.fy hM.2.2.2.2.2.2) (gT.rt hM.1) g2 ((g1.2 21 (by decide) (by decide)).trans hM.2.2.2.1) (by omega)
  · exact absurd e13 h36
end W51
