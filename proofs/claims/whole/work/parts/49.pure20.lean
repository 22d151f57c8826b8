-- 49.pure20: questions: behind, home, belongs, becomes
def us (x n : Int32) : Int32 := (x.toUInt32 >>> (n.toUInt32 &&& Int32.toUInt32 31)).toInt32
def bc1 (x : Int32) : Int32 := x - (us x 1 &&& 1431655765)
def bc2 (x : Int32) : Int32 := (x &&& 858993459) + (us x 2 &&& 858993459)
def bc3 (x : Int32) : Int32 := (x + us x 4) &&& 252645135
def bc4 (x : Int32) : Int32 := x + us x 8
def bc5 (x : Int32) : Int32 := x + us x 16
theorem bcE : ∀ m, m < 512 → (bc5 (bc4 (bc3 (bc2 (bc1 (nI m)))))) &&& 63 = nI (pcnt 9 m) := by decide +kernel
/-- the first greatest of h 0 .. h n -/
def amF (h : Nat → Nat) : Nat → Nat × Nat
  | 0 => (0, h 0)
  | n + 1 => if (amF h n).2 < h (n + 1) then (n + 1, h (n + 1)) else amF h n
theorem amF_s {h : Nat → Nat} {n : Nat} : amF h (n + 1) = if (amF h n).2 < h (n + 1) then (n + 1, h (n + 1)) else amF h n := rfl
theorem amF_le {h : Nat → Nat} {K : Nat} (hk : ∀ i, h i ≤ K) : ∀ n, (amF h n).1 ≤ n ∧ (amF h n).2 ≤ K := by
  intro n
  induction n with
  | zero => exact ⟨Nat.le_refl _, hk 0⟩
  | succ n ih =>
    rw [amF_s]
    split
    · exact ⟨Nat.le_refl _, hk _⟩
    · exact ⟨by omega, ih.2⟩
noncomputable def hhF (f : FA) (spot n v : Nat) : Nat := pcnt 9 (homeF (nightsF (upd f spot (nI v)) n))
noncomputable def mostV (f : FA) (spot N n : Nat) (w : Int32) : Int32 := if w = 0 then nI (amF (hhF f spot n) (N - 1)).1 else nI (amF (hhF f spot n) (N - 1)).2
noncomputable def behind1 (f : FA) (k : Nat) (w : Int32) : Int32 := if w = 0 then nightsF f k 5 else if w = 1 then nightsF f k 6 else if w = 2 then nI (homeF (nightsF f k)) else nightsF f k (50 + 4 * (w.toNatClampNeg - 3))
noncomputable def behindV (f : FA) (n w : Int32) : Int32 := iteC (isBd 101 n ∧ isBd (3 + cP f) w) (behind1 f n.toNatClampNeg w) (-1000000001)
noncomputable def homeV (f : FA) (p : Int32) : Int32 := iteC (isBd (cP f) p) (if hbF f p.toNatClampNeg 0 201 ≤ 200 then nI (hbF f p.toNatClampNeg 0 201) else -1000000005) (-1000000001)
noncomputable def belongsV (f : FA) (b n w : Int32) : Int32 := iteC (isBd (cB f) b ∧ (¬ n < 1 ∧ ¬ 60 < n) ∧ isBd 2 w) (mostV f (12 + 4 * b.toNatClampNeg) 8 n.toNatClampNeg w) (-1000000001)
noncomputable def becomesV (f : FA) (b n w : Int32) : Int32 := iteC (isBd (cB f) b ∧ (¬ n < 1 ∧ ¬ 60 < n) ∧ isBd 2 w) (mostV f (10 + 4 * b.toNatClampNeg) 6 n.toNatClampNeg w) (-1000000001)
theorem homeF_512 {f : FA} (h : cP f ≤ 9) : homeF f < 512 := setF_512 _ h
theorem wf_bed {K : Nat} {f : FA} {k : Nat} {v : Int32} (h : WF K f) (h1 : 10 ≤ k) (h2 : k < 50) (hv : isBd 8 v ∨ ∃ b, k = 10 + 4 * b) : WF K (upd f k v) := by
  have kp : KP f (upd f k v) := KP.up (by omega)
  refine ⟨kp.nm h.1, ?_, ?_, ?_⟩
  · intro p hp
    rw [kp.cp] at hp
    rw [upd_ne (by omega), upd_ne (by omega)]
    exact h.2.1 p hp
  · intro b hb
    rw [kp.cb] at hb
    have q := h.2.2.1 b hb
    rcases hv with hv | ⟨c, rfl⟩
    · refine ⟨?_, ?_, ?_⟩
      · rw [upd_ap]; split
        · exact hv
        · exact q.1
      · rw [upd_ap]; split
        · exact hv
        · exact q.2.1
      · rw [upd_ap]; split
        · exact hv
        · exact q.2.2
    · rw [upd_ne (by omega), upd_ne (by omega), upd_ne (by omega)]
      exact q
  · intro p hp
    rw [kp.cp] at hp
    rw [upd_ne (by omega)]
    exact h.2.2.2 p hp
/-- what the reference's thoughts touch, all put back -/
def Fh (M M' : Mem) : Prop := ∀ k, k ≠ 31 → k ≠ 35 → k ≠ 38 → k ≠ 39 → k ≠ 56 → k ≠ 57 → M' k = M k
theorem Fh.sc {M M' : Mem} (h : Fh M M') (e : M' 31 0 0 = M 31 0 0) : FrS M M' := ⟨e, fun k i z => by rw [h k (fun e => z (by unfold Sc; omega)) (fun e => z (by unfold Sc; omega)) (fun e => z (by unfold Sc; omega)) (fun e => z (by unfold Sc; omega)) (fun e => z (by unfold Sc; omega)) (fun e => z (by unfold Sc; omega))]⟩
theorem Fh.rf {M : Mem} : Fh M M := fun _ _ _ _ _ _ _ => rfl
theorem Fh.tr {M M' M'' : Mem} (h : Fh M M') (h' : Fh M' M'') : Fh M M'' := fun k a b c d e f => (h' k a b c d e f).trans (h k a b c d e f)
theorem Fh.m {M M' : Mem} (h : ∀ k, k ≠ 31 → k ≠ 35 → k ≠ 56 → k ≠ 57 → M' k = M k) : Fh M M' := fun k a b _ _ e f => h k a b e f
theorem Fh.o {M M' : Mem} (h : ∀ k, k ≠ 31 → M' k = M k) : Fh M M' := fun k a _ _ _ _ _ => h k a
theorem Fh.t {M M' : Mem} (h : ∀ k, k ≠ 38 → M' k = M k) : Fh M M' := fun k _ _ a _ _ _ => h k a
section W20
variable {d l b p K : Nat} {M : Mem} {Q : PQ} {f : FA}
theorem sp_bitCount {m : Nat} (hd : 1 ≤ d) (hm : m < 512) (hQ : Q (some (.inl (nI (pcnt 9 m)))) M) : Td PR d 217 [.inl (nI m)] M Q := by
  obtain ⟨e, rfl⟩ : ∃ e, d = e + 1 := ⟨d - 1, by omega⟩
  refine td_J6_bitCount_0f7a4 ?_
  intro S hS
  iterate 42 refine hS _ _ _ _ ?_
  exact qv hQ (bcE m hm).symm
end W20
theorem c_behind {M : Mem} {Q : PQ} {d : Nat} {n w : Int32} (hd : 500 ≤ d) (hI : INV M) (hQ : ∀ M', FrS M M' → Q (some (.inl (behindV (M 31 0 0) n w))) M') : Td PR d 84 [.inr (0, 0, 0), .inl n, .inl w] M Q := by
  have hL := hI.ll
  have hC := hI.cn
  have hb10 := hL.b10
  have hp9 := hL.p9
  have ht14 := hL.t14
  generalize hV : behindV (M 31 0 0) n w = W at hQ
  obtain ⟨e, rfl⟩ : ∃ e, d = e + 1 := ⟨d - 1, by omega⟩
  refine td_X9_behind ?_
  intro S hS
  iterate 2 refine hS _ _ _ _ ?_
  refine And.intro (fun h1 => ?_) (fun h1 => ?_)
  · iterate 2 refine hS _ _ _ _ ?_
    rw [behindV, iteC_f (fun z => isBd_lo h1 (by decide) z.1)] at hV
    exact qv (hQ _ FrS.rf) hV.symm
  · iterate 3 refine hS _ _ _ _ ?_
    refine And.intro (fun h7 => ?_) (fun h7 => ?_)
    · iterate 2 refine hS _ _ _ _ ?_
      rw [behindV, iteC_f (fun z => ((in_bd1 (n := 100) (by omega)).mpr z.1).2 h7)] at hV
      exact qv (hQ _ FrS.rf) hV.symm
    · iterate 2 refine hS _ _ _ _ ?_
      refine And.intro (fun h11 => ?_) (fun h11 => ?_)
      · iterate 2 refine hS _ _ _ _ ?_
        rw [behindV, iteC_f (fun z => isBd_lo h11 (by omega) z.2)] at hV
        exact qv (hQ _ FrS.rf) hV.symm
      · iterate 7 refine hS _ _ _ _ ?_
        refine And.intro (fun h24 => ?_) (fun h24 => ?_)
        · have h24' := h24
          rw [show M 1 0 0 4 = _ from hL.pc, show (3 : Int32) + nI (cP (M 31 0 0)) = nI (3 + cP (M 31 0 0)) from nI_add 3 _] at h24'
          have hn : isBd 101 n := (in_bd1 (n := 100) (by omega)).mp ⟨h1, fun z => h7 z⟩
          have hw := isBd_in h11 (Int32.not_le.mpr h24') (by omega)
          rw [behindV, iteC_t ⟨hn, hw⟩] at hV
          obtain ⟨k, hk, rfl⟩ := hn
          obtain ⟨j, hj, rfl⟩ := hw
          rw [nI_clamp (by omega)] at hV
          have kn := nights_kn hI.nm k
          iterate 5 refine hS _ _ _ _ ?_
          refine sp_landAs (by omega) (by decide) hL (fun M1 f1 l1 => ?_)
          iterate 4 refine hS _ _ _ _ ?_
          refine sp_passNights (by omega) l1 (f1.fn.tx hI.tx) hI.wf.2.1 hI.nm (by omega) (fun M2 f2 l2 => ?_)
          iterate 2 refine hS _ _ _ _ ?_
          refine And.intro (fun h50_0 => ?_) (fun h50_0 => ?_)
          · iterate 4 refine hS _ _ _ _ ?_
            refine qv (hQ _ (f1.sc.tr f2.sc)) ?_
            rw [← hV, behind1, if_pos h50_0]
            exact l2.slept.symm
          refine And.intro (fun h50_1 => ?_) (fun h50_1 => ?_)
          · iterate 4 refine hS _ _ _ _ ?_
            refine qv (hQ _ (f1.sc.tr f2.sc)) ?_
            rw [← hV, behind1, if_neg h50_0, if_pos h50_1]
            exact l2.awake.symm
          refine And.intro (fun h50_2 => ?_) (fun h50_2 => ?_)
          · iterate 3 refine hS _ _ _ _ ?_
            refine sp_thoseAtHome (by omega) l2 ?_
            refine hS _ _ _ _ ?_
            refine qv (hQ _ (f1.sc.tr f2.sc)) ?_
            rw [← hV, behind1, if_neg h50_0, if_neg h50_1, if_pos h50_2]
          have hj3 : 3 ≤ j := by
            rcases Nat.lt_or_ge j 3 with z | z
            · exfalso
              obtain rfl | rfl | rfl : j = 0 ∨ j = 1 ∨ j = 2 := by omega
              · exact h50_0 rfl
              · exact h50_1 rfl
              · exact h50_2 rfl
            · exact z
          have ej : nI j - 3 = nI (j - 3) := nI_sub (b := 3) hj3
          have e0 := l2.town (p := j - 3) (by rw [kn.cp]; omega)
          iterate 7 refine hS _ _ _ _ ?_
          rw [ej]
          refine ⟨(by first | assumption | exact vp_in_nI (by simp only [alen]; omega) (by decide)), ?_⟩
          try rw [nI_clamp (by omega)]
          refine hS _ _ _ _ ?_
          refine hS _ _ _ _ ?_
          refine qv (hQ _ (f1.sc.tr f2.sc)) ?_
          rw [← hV, behind1, if_neg h50_0, if_neg h50_1, if_neg h50_2, nI_clamp (by omega)]
          exact e0.symm
        · have h24' := h24
          rw [show M 1 0 0 4 = _ from hL.pc, show (3 : Int32) + nI (cP (M 31 0 0)) = nI (3 + cP (M 31 0 0)) from nI_add 3 _] at h24'
          iterate 2 refine hS _ _ _ _ ?_
          rw [behindV, iteC_f (fun z => isBd_hi (Int32.not_lt.mp h24') (by omega) z.2)] at hV
          exact qv (hQ _ FrS.rf) hV.symm
theorem m_behind {M : Mem} {Q : PQ} {d : Nat} {n w : Int32} (hd : 500 ≤ d) (hI : INV M) (hQ : ∀ M', FrS M M' → Q (some (.inl (behindV (M 31 0 0) n w))) M') : Td PR d 172 [.inr (30, 0, 0), .inl n, .inl w] M Q := by
  have hL := hI.ll
  have hC := hI.cn
  have hb10 := hL.b10
  have hp9 := hL.p9
  have ht14 := hL.t14
  generalize hV : behindV (M 31 0 0) n w = W at hQ
  have lp : isBd 101 n → isBd (3 + cP (M 31 0 0)) w → ∀ Q : PQ, (∀ M', FrS M M' → Q (some (.inl W)) M') → behindV (M 31 0 0) n w = W → ∀ {e : Nat} (S : CF), Clo (Td PR e) (some .int) T_X10_behind Q S → 8 ≤ e → S 32 [some (.inr (30, 0, 0)), some (.inl n), some (.inl w), none] [] M := by
    intro hn hw Q hQ hV e S hS he
    rw [behindV, iteC_t ⟨hn, hw⟩] at hV
    obtain ⟨k, hk, rfl⟩ := hn
    obtain ⟨j, hj, rfl⟩ := hw
    rw [nI_clamp (by omega)] at hV
    have kn := nights_kn hI.nm k
    have fin : ∀ M2 v, Fh M M2 → M2 31 0 0 = nightsF (M 31 0 0) k → (∀ i, i < 86 → M2 38 0 0 i = M 31 0 0 i) → v = W → S 89 [some (.inr (30, 0, 0)), some (.inl (nI k)), some (.inl (nI j)), none] [.inl v] M2 := by
      intro M2 v a1 a2 a3 a4
      iterate 3 refine hS _ _ _ _ ?_
      refine sm_putsBack (g := M 31 0 0) (by omega) a3 (fun i hi => by rw [a2]; exact kn.2.2.2.2 i hi) (fun M3 b1 b2 => ?_)
      iterate 2 refine hS _ _ _ _ ?_
      exact qv (hQ _ ((a1.tr (Fh.o b1)).sc b2)) a4.symm
    iterate 2 refine hS _ _ _ _ ?_
    refine sm_thinks (by omega) (fun M1 f1 e1 => ?_)
    have e31 : M1 31 = M 31 := f1 31 (by decide)
    iterate 3 refine hS _ _ _ _ ?_
    refine sm_goesOn (K := 10000) (by omega) (by rw [e31]; exact hI.nm) (by omega) (fun M2 f2 e2 => ?_)
    rw [e31] at e2
    have e38 : ∀ i, i < 86 → M2 38 0 0 i = M 31 0 0 i := fun i hi => by rw [f2 38 (by decide) (by decide) (by decide) (by decide)]; exact e1 i hi
    have fh : Fh M M2 := (Fh.t f1).tr (Fh.m f2)
    iterate 2 refine hS _ _ _ _ ?_
    refine And.intro (fun h42 => ?_) (fun h42 => ?_)
    · rw [behind1] at hV
      iterate 3 refine hS _ _ _ _ ?_
      refine And.intro (fun h56 => ?_) (fun h56 => ?_)
      · iterate 3 refine hS _ _ _ _ ?_
        refine And.intro (fun h71 => ?_) (fun h71 => ?_)
        · have hj3 : 3 ≤ j := by
            rcases Nat.lt_or_ge j 3 with z | z
            · exfalso
              obtain rfl | rfl | rfl : j = 0 ∨ j = 1 ∨ j = 2 := by omega
              · exact h42 rfl
              · exact h56 rfl
              · exact h71 rfl
            · exact z
          have ej : nI j - 3 = nI (j - 3) := nI_sub (b := 3) hj3
          iterate 6 refine hS _ _ _ _ ?_
          rw [ej]
          refine sm_by0 (by omega) (by omega) ?_
          refine fin M2 _ fh e2 e38 ?_
          rw [← hV, if_neg h42, if_neg h56, if_neg h71, e2, nI_clamp (by omega)]
        · iterate 2 refine hS _ _ _ _ ?_
          refine sm_atHome (by omega) (by rw [e2]; exact kn.cn hI.cn) ?_
          refine hS _ _ _ _ ?_
          refine fin M2 _ fh e2 e38 ?_
          rw [← hV, if_neg h42, if_neg h56, if_pos h71, e2]
      · iterate 4 refine hS _ _ _ _ ?_
        refine ⟨vp_l rfl, ?_⟩
        try rw [show Int32.toNatClampNeg 6 = 6 from rfl]
        refine hS _ _ _ _ ?_
        refine fin M2 _ fh e2 e38 ?_
        rw [← hV, if_neg h42, if_pos h56, e2]
    · iterate 4 refine hS _ _ _ _ ?_
      refine ⟨vp_l rfl, ?_⟩
      try rw [show Int32.toNatClampNeg 5 = 5 from rfl]
      refine hS _ _ _ _ ?_
      refine fin M2 _ fh e2 e38 ?_
      rw [← hV, behind1, if_pos h42, e2]
  obtain ⟨e, rfl⟩ : ∃ e, d = e + 1 := ⟨d - 1, by omega⟩
  refine td_X10_behind ?_
  intro S hS
  iterate 4 refine hS _ _ _ _ ?_
  refine sm_in (by omega) ?_
  refine hS _ _ _ _ ?_
  refine And.intro (fun h7 => ?_) (fun h7 => ?_)
  · replace h7 := bI_f h7
    replace h7 := fun z => h7 ((in_bd1 (n := 100) (by omega)).mpr z)
    iterate 2 refine hS _ _ _ _ ?_
    rw [behindV, iteC_f (fun z => h7 z.1)] at hV
    exact qv (hQ _ FrS.rf) hV.symm
  · replace h7 := bI_t h7
    replace h7 := (in_bd1 (n := 100) (by omega)).mp h7
    iterate 2 refine hS _ _ _ _ ?_
    refine And.intro (fun h11 => ?_) (fun h11 => ?_)
    · iterate 2 refine hS _ _ _ _ ?_
      rw [behindV, iteC_f (fun z => isBd_lo h11 (by omega) z.2)] at hV
      exact qv (hQ _ FrS.rf) hV.symm
    · iterate 3 refine hS _ _ _ _ ?_
      refine And.intro (fun h16 => ?_) (fun h16 => ?_)
      · have hw3 : isBd 3 w := (in_bd1 (n := 2) (by omega)).mp ⟨h11, Int32.not_lt.mpr h16⟩
        have hw : isBd (3 + cP (M 31 0 0)) w := by obtain ⟨j, hj, e⟩ := hw3; exact ⟨j, by omega, e⟩
        exact lp h7 hw Q hQ hV _ hS (by omega)
      · obtain ⟨j, hj, rfl⟩ := nI_of h11
        have hj3 : 3 ≤ j := by
          rcases Nat.lt_or_ge j 3 with z | z
          · exact absurd (nI_le (b := 2) (show j ≤ 2 by omega) (by decide)) h16
          · exact z
        have ej : nI j - 3 = nI (j - 3) := nI_sub (b := 3) hj3
        iterate 5 refine hS _ _ _ _ ?_
        rw [ej]
        refine sm_isOne (by omega) hC ?_
        refine hS _ _ _ _ ?_
        refine And.intro (fun h26 => ?_) (fun h26 => ?_)
        · replace h26 := bI_t h26
          obtain ⟨i, hi, ei⟩ := h26
          have ei' := (nI_eq (by omega) (by omega)).mp ei
          exact lp h7 ⟨j, by omega, rfl⟩ Q hQ hV _ hS (by omega)
        · replace h26 := bI_f h26
          iterate 2 refine hS _ _ _ _ ?_
          rw [behindV, iteC_f (fun z => h26 (by obtain ⟨i, hi, ei⟩ := z.2; have ei' := (nI_eq hj (by omega)).mp ei; exact ⟨j - 3, by omega, rfl⟩))] at hV
          exact qv (hQ _ FrS.rf) hV.symm
theorem op_behind {n w : Int32} : OpOK 84 172 [.inl n, .inl w] := op_q (fun M => behindV (M 31 0 0) n w) (fun M Q d hd hI hQ => c_behind hd hI hQ) (fun M Q d hd hI hQ => m_behind hd hI hQ) (fun M M' h => by simp only [h.k31])
theorem c_home {M : Mem} {Q : PQ} {d : Nat} {p : Int32} (hd : 500 ≤ d) (hI : INV M) (hQ : ∀ M', FrS M M' → Q (some (.inl (homeV (M 31 0 0) p))) M') : Td PR d 85 [.inr (0, 0, 0), .inl p] M Q := by
  have hL := hI.ll
  have hC := hI.cn
  have hb10 := hL.b10
  have hp9 := hL.p9
  have ht14 := hL.t14
  generalize hV : homeV (M 31 0 0) p = W at hQ
  obtain ⟨e, rfl⟩ : ∃ e, d = e + 1 := ⟨d - 1, by omega⟩
  refine td_X9_home ?_
  intro S hS
  iterate 3 refine hS _ _ _ _ ?_
  refine sp_isOne (by omega) hL ?_
  refine hS _ _ _ _ ?_
  refine And.intro (fun h5 => ?_) (fun h5 => ?_)
  · replace h5 := bI_t h5
    obtain ⟨j, hj, rfl⟩ := h5
    rw [homeV, iteC_t ⟨j, hj, rfl⟩, nI_clamp (by omega)] at hV
    iterate 5 refine hS _ _ _ _ ?_
    refine sp_landAs (by omega) (by decide) hL (fun M1 f1 l1 => ?_)
    iterate 5 refine hS _ _ _ _ ?_
    refine sp_nightsUntilHome (m := 200) (by omega) hj l1 (f1.fn.tx hI.tx) hI.wf (by omega) (fun M2 f2 => ?_)
    iterate 3 refine hS _ _ _ _ ?_
    refine And.intro (fun h35 => ?_) (fun h35 => ?_)
    · have hc : hbF (M 31 0 0) j 0 201 ≤ 200 := Classical.byContradiction fun z => absurd h35 (by rw [if_neg z]; decide)
      rw [if_pos hc] at hV ⊢
      iterate 2 refine hS _ _ _ _ ?_
      exact qv (hQ _ (f1.sc.tr f2.sc)) hV.symm
    · have hc : ¬ hbF (M 31 0 0) j 0 201 ≤ 200 := fun z => h35 (by rw [if_pos z]; exact nI_pos' (show hbF (M 31 0 0) j 0 201 < 2 ^ 31 by omega))
      rw [if_neg hc] at hV
      iterate 3 refine hS _ _ _ _ ?_
      exact qv (hQ _ (f1.sc.tr f2.sc)) hV.symm
  · replace h5 := bI_f h5
    iterate 2 refine hS _ _ _ _ ?_
    rw [homeV, iteC_f h5] at hV
    exact qv (hQ _ FrS.rf) hV.symm
theorem m_home {M : Mem} {Q : PQ} {d : Nat} {p : Int32} (hd : 500 ≤ d) (hI : INV M) (hQ : ∀ M', FrS M M' → Q (some (.inl (homeV (M 31 0 0) p))) M') : Td PR d 174 [.inr (30, 0, 0), .inl p] M Q := by
  have hL := hI.ll
  have hC := hI.cn
  have hb10 := hL.b10
  have hp9 := hL.p9
  have ht14 := hL.t14
  generalize hV : homeV (M 31 0 0) p = W at hQ
  obtain ⟨e, rfl⟩ : ∃ e, d = e + 1 := ⟨d - 1, by omega⟩
  refine td_X10_home ?_
  intro S hS
  iterate 3 refine hS _ _ _ _ ?_
  refine sm_isOne (by omega) hC ?_
  refine hS _ _ _ _ ?_
  refine And.intro (fun h5 => ?_) (fun h5 => ?_)
  · replace h5 := bI_t h5
    obtain ⟨j, hj, rfl⟩ := h5
    rw [homeV, iteC_t ⟨j, hj, rfl⟩, nI_clamp (by omega)] at hV
    have hle := hbF_le (f := M 31 0 0) (p := j) 201 0
    iterate 2 refine hS _ _ _ _ ?_
    refine sm_thinks (by omega) (fun M1 f1 e1 => ?_)
    have e31 : M1 31 = M 31 := f1 31 (by decide)
    iterate 4 refine hS _ _ _ _ ?_
    refine sm_homeBy (m := 200) (f := M 31 0 0) (g := M 31 0 0) (K := 10000) (by omega) hj (by rw [e31]) hI.nm (by omega) (by omega) e1 (fun i hi => rfl) (fun M2 f2 e2 => ?_)
    iterate 4 refine hS _ _ _ _ ?_
    refine And.intro (fun h28 => ?_) (fun h28 => ?_)
    · have hc : hbF (M 31 0 0) j 0 201 ≤ 200 := Nat.le_of_not_lt fun z => absurd h28 (nI_ge (b := hbF (M 31 0 0) j 0 201) (a := 200) z (by omega))
      rw [if_pos hc] at hV
      iterate 2 refine hS _ _ _ _ ?_
      exact qv (hQ _ (((Fh.t f1).tr (Fh.m f2)).sc e2)) hV.symm
    · have hc : ¬ hbF (M 31 0 0) j 0 201 ≤ 200 := fun z => h28 (nI_le (b := 200) z (by decide))
      rw [if_neg hc] at hV
      iterate 3 refine hS _ _ _ _ ?_
      exact qv (hQ _ (((Fh.t f1).tr (Fh.m f2)).sc e2)) hV.symm
  · replace h5 := bI_f h5
    iterate 2 refine hS _ _ _ _ ?_
    rw [homeV, iteC_f h5] at hV
    exact qv (hQ _ FrS.rf) hV.symm
theorem op_home {p : Int32} : OpOK 85 174 [.inl p] := op_q (fun M => homeV (M 31 0 0) p) (fun M Q d hd hI hQ => c_home hd hI hQ) (fun M Q d hd hI hQ => m_home hd hI hQ) (fun M M' h => by simp only [h.k31])
section W21
variable {d l b p K : Nat} {M : Mem} {Q : PQ} {f : FA}
theorem sm_mostBy {spot N n : Nat} {w : Int32} (hd : 20 ≤ d) (hW : WF 10000 (M 31 0 0)) (h1 : 10 ≤ spot) (h2 : spot < 50) (hN : 0 < N) (hN9 : N < 100) (hn : n < 1000) (hb : ∀ v, v < N → isBd 8 (nI v) ∨ ∃ b, spot = 10 + 4 * b)
    (hQ : ∀ M', Fh M M' → M' 31 0 0 = M 31 0 0 → Q (some (.inl (mostV (M 31 0 0) spot N n w))) M') : Td PR d 176 [.inr (30, 0, 0), .inl (nI spot), .inl (nI N), .inl (nI n), .inl w] M Q := by
  have hp9 := hW.1.1.2.2.2.1
  generalize hf : M 31 0 0 = f at *
  generalize hV : mostV f spot N n w = W at hQ
  have hh9 : ∀ v, hhF f spot n v ≤ 9 := fun v => pcnt_le 9 _
  obtain ⟨e, rfl⟩ : ∃ e, d = e + 1 := ⟨d - 1, by omega⟩
  refine td_X10_mostBy ?_
  intro S hS
  have lp : ∀ M', Fh M M' → M' 31 0 0 = f → (∀ i, i < 86 → M' 38 0 0 i = f i) → S 13 [some (.inr (30, 0, 0)), some (.inl (nI spot)), some (.inl (nI N)), some (.inl (nI n)), some (.inl w), some (.inl (-1)), some (.inl 0), some (.inl 0), none] [] M' := by
    intro M' a1 a2 a3
    refine lp_up (T := fun i => ∀ o M', Fh M M' → M' 31 0 0 = f → (∀ i, i < 86 → M' 38 0 0 i = f i) → ∀ b m, (if i = 0 then b = -1 ∧ m = 0 else b = nI (amF (hhF f spot n) (i - 1)).1 ∧ m = nI (amF (hhF f spot n) (i - 1)).2) → S 13 [some (.inr (30, 0, 0)), some (.inl (nI spot)), some (.inl (nI N)), some (.inl (nI n)), some (.inl w), some (.inl b), some (.inl m), some (.inl (nI i)), o] [] M') (N := N) ?_ ?_ 0 (Nat.zero_le _) none M' a1 a2 a3 (-1) 0 (by rw [if_pos rfl]; exact ⟨rfl, rfl⟩)
    · intro o M' a1 a2 a3 b m hbm
      rw [if_neg (by omega)] at hbm
      obtain ⟨rfl, rfl⟩ := hbm
      iterate 3 refine hS _ _ _ _ ?_
      refine And.intro (fun h16 => ?_) (fun h16 => ?_)
      · iterate 2 refine hS _ _ _ _ ?_
        refine And.intro (fun h73 => ?_) (fun h73 => ?_)
        · iterate 2 refine hS _ _ _ _ ?_
          rw [mostV, if_neg h73] at hV
          exact qv (hQ _ a1 a2) hV.symm
        · iterate 3 refine hS _ _ _ _ ?_
          rw [mostV, if_pos h73] at hV
          exact qv (hQ _ a1 a2) hV.symm
      · exact (lp_x rfl h16).elim
    · intro i hi ih o M' a1 a2 a3 b m hbm
      have wf := wf_bed (v := nI i) (k := spot) hW h1 h2 (hb i hi)
      have kp : KP f (upd f spot (nI i)) := KP.up (by omega)
      have kn := nights_kn wf.1 n
      have p9 : cP (nightsF (upd f spot (nI i)) n) ≤ 9 := by rw [kn.cp, kp.cp]; exact hp9
      have hle := (amF_le hh9 (i - 1))
      have hri : ∀ o2 M2, Fh M M2 → M2 31 0 0 = f → (∀ i, i < 86 → M2 38 0 0 i = f i) → ∀ b2 m2, b2 = nI (amF (hhF f spot n) i).1 → m2 = nI (amF (hhF f spot n) i).2 → S 13 [some (.inr (30, 0, 0)), some (.inl (nI spot)), some (.inl (nI N)), some (.inl (nI n)), some (.inl w), some (.inl b2), some (.inl m2), some (.inl (nI i + 1)), o2] [] M2 := by
        intro o2 M2 c1 c2 c3 b2 m2 e1 e2
        have := ih o2 M2 c1 c2 c3 b2 m2 (by rw [if_neg (by omega)]; exact ⟨e1, e2⟩)
        rw [nI_succ] at this
        exact this
      have mM : mu M' 31 0 0 spot (nI i) 31 0 0 = upd f spot (nI i) := by rw [upd_mu, a2]
      iterate 3 refine hS _ _ _ _ ?_
      refine And.intro (fun h16 => ?_) (fun h16 => ?_)
      · exact (lp_s rfl hi (by omega) h16).elim
      · iterate 5 refine hS _ _ _ _ ?_
        refine ⟨(by first | assumption | exact vp_in_nI (by simp only [alen]; omega) (by decide)), ?_⟩
        try rw [nI_clamp (by omega)]
        iterate 3 refine hS _ _ _ _ ?_
        refine sm_goesOn (K := 10000) (by omega) (by rw [mM]; exact wf.1) (by omega) (fun M2 f2 e2 => ?_)
        rw [mM] at e2
        iterate 2 refine hS _ _ _ _ ?_
        refine sm_atHome (by omega) (by rw [e2]; exact kn.cn (kp.cn hW.1.1)) ?_
        rw [e2]
        have h512 := homeF_512 p9
        have hhe : pcnt 9 (homeF (nightsF (upd f spot (nI i)) n)) = hhF f spot n i := rfl
        refine hS _ _ _ _ ?_
        refine sm_manyOf (by omega) h512 ?_
        rw [hhe]
        iterate 3 refine hS _ _ _ _ ?_
        refine sm_putsBack (g := f) (by omega) (fun q hq => by rw [f2 38 (by decide) (by decide) (by decide) (by decide)]; exact a3 q hq) (fun q hq => by rw [e2, kn.2.2.2.2 q hq]; exact upd_ne (by omega)) (fun M3 f3 e3 => ?_)
        have fh : Fh M M3 := a1.tr ((Fh.o (fun k hk => mz_k hk)).tr ((Fh.m f2).tr (Fh.o f3)))
        have e38 : ∀ q, q < 86 → M3 38 0 0 q = f q := fun q hq => by rw [f3 38 (by decide), f2 38 (by decide) (by decide) (by decide) (by decide)]; exact a3 q hq
        iterate 2 refine hS _ _ _ _ ?_
        refine And.intro (fun h47 => ?_) (fun h47 => ?_)
        · have z : i = 0 := by
            rcases Nat.eq_zero_or_pos i with z | z
            · exact z
            · rw [if_neg (by omega)] at hbm
              rw [hbm.1] at h47
              exact absurd h47 (nI_pos (by omega))
          iterate 6 refine hS _ _ _ _ ?_
          subst z
          exact hri _ M3 fh e3 e38 _ _ rfl rfl
        · have z : 0 < i := by
            rcases Nat.eq_zero_or_pos i with z | z
            · rw [if_pos z] at hbm
              rw [hbm.1] at h47
              exact absurd (by decide) h47
            · exact z
          rw [if_neg (by omega)] at hbm
          obtain ⟨x, rfl⟩ : ∃ x, i = x + 1 := ⟨i - 1, by omega⟩
          rw [Nat.add_sub_cancel] at *
          iterate 3 refine hS _ _ _ _ ?_
          refine And.intro (fun h54 => ?_) (fun h54 => ?_)
          · rw [hbm.2] at h54
            have hn : ¬ (amF (hhF f spot n) x).2 < hhF f spot n (x + 1) := fun y => absurd h54 (nI_ge y (by have := hh9 (x + 1); omega))
            iterate 2 refine hS _ _ _ _ ?_
            exact hri _ M3 fh e3 e38 _ _ (by rw [amF_s, if_neg hn]; exact hbm.1) (by rw [amF_s, if_neg hn]; exact hbm.2)
          · rw [hbm.2] at h54
            have hn : (amF (hhF f spot n) x).2 < hhF f spot n (x + 1) := Nat.lt_of_not_le fun y => h54 (nI_le y (by omega))
            iterate 6 refine hS _ _ _ _ ?_
            exact hri _ M3 fh e3 e38 _ _ (by rw [amF_s, if_pos hn]) (by rw [amF_s, if_pos hn])
  iterate 2 refine hS _ _ _ _ ?_
  refine sm_thinks (by omega) (fun M1 f1 e1 => ?_)
  have e31 : M1 31 = M 31 := f1 31 (by decide)
  iterate 6 refine hS _ _ _ _ ?_
  exact lp M1 (Fh.t f1) (by rw [e31]; exact hf) (fun i hi => by rw [e1 i hi, hf])
end W21
theorem c_belongs {M : Mem} {Q : PQ} {d : Nat} {b n w : Int32} (hd : 500 ≤ d) (hI : INV M) (hQ : ∀ M', FrS M M' → Q (some (.inl (belongsV (M 31 0 0) b n w))) M') : Td PR d 87 [.inr (0, 0, 0), .inl b, .inl n, .inl w] M Q := by
  have hL := hI.ll
  have hC := hI.cn
  have hb10 := hL.b10
  have hp9 := hL.p9
  have ht14 := hL.t14
  generalize hV : belongsV (M 31 0 0) b n w = W at hQ
  have clp : ∀ j k, j < cB (M 31 0 0) → k < 61 → ∀ W, mostV (M 31 0 0) (12 + 4 * j) 8 k w = W → ∀ Q : PQ, (∀ M', FrS M M' → Q (some (.inl W)) M') → ∀ {e : Nat} (S : CF), Clo (Td PR e) (some .int) T_X9_belongs Q S → 20 ≤ e → S 40 [some (.inr (0, 0, 0)), some (.inl (nI j)), some (.inl (nI k)), some (.inl w), some (.inl 0), some (.inl (-1)), some (.inl 0), none] [] M := by
    intro j k hj hk W hV Q hQ e S hS he
    have hh9 : ∀ v, hhF (M 31 0 0) (12 + 4 * j) k v ≤ 9 := fun v => pcnt_le 9 _
    refine lp_up (T := fun i => ∀ o M', FrS M M' → ∀ b m, (if i = 0 then b = 0 ∧ m = -1 else b = nI (amF (hhF (M 31 0 0) (12 + 4 * j) k) (i - 1)).1 ∧ m = nI (amF (hhF (M 31 0 0) (12 + 4 * j) k) (i - 1)).2) → S 40 [some (.inr (0, 0, 0)), some (.inl (nI j)), some (.inl (nI k)), some (.inl w), some (.inl b), some (.inl m), some (.inl (nI i)), o] [] M') (N := 8) ?_ ?_ 0 (Nat.zero_le _) none M FrS.rf 0 (-1) (by rw [if_pos rfl]; exact ⟨rfl, rfl⟩)
    · intro o M' a1 b m hbm
      rw [if_neg (by decide)] at hbm
      obtain ⟨rfl, rfl⟩ := hbm
      iterate 3 refine hS _ _ _ _ ?_
      refine And.intro (fun h44 => ?_) (fun h44 => ?_)
      · iterate 2 refine hS _ _ _ _ ?_
        refine And.intro (fun h114 => ?_) (fun h114 => ?_)
        · iterate 2 refine hS _ _ _ _ ?_
          rw [mostV, if_neg h114] at hV
          exact qv (hQ _ a1) hV.symm
        · iterate 3 refine hS _ _ _ _ ?_
          rw [mostV, if_pos h114] at hV
          exact qv (hQ _ a1) hV.symm
      · exact (lp_x (n := 8) rfl h44).elim
    · intro i hi ih o M' a1 b m hbm
      have hI' := hI.sc a1
      have hL' : LL M' 0 (M 31 0 0) := by rw [← a1.1]; exact hI'.ll
      have hT' : TX M' (M 31 0 0) := by rw [← a1.1]; exact hI'.tx
      have wf := wf_bed (v := nI i) (k := 12 + 4 * j) hI.wf (by omega) (by omega) (Or.inl ⟨i, by omega, rfl⟩)
      have kp : KP (M 31 0 0) (upd (M 31 0 0) (12 + 4 * j) (nI i)) := KP.up (by omega)
      have p9 : cP (nightsF (upd (M 31 0 0) (12 + 4 * j) (nI i)) k) ≤ 9 := by rw [(nights_kn wf.1 k).cp, kp.cp]; exact hp9
      have hle := (amF_le hh9 (i - 1))
      have hri : ∀ o2 M2, FrS M M2 → ∀ b2 m2, b2 = nI (amF (hhF (M 31 0 0) (12 + 4 * j) k) i).1 → m2 = nI (amF (hhF (M 31 0 0) (12 + 4 * j) k) i).2 → S 40 [some (.inr (0, 0, 0)), some (.inl (nI j)), some (.inl (nI k)), some (.inl w), some (.inl b2), some (.inl m2), some (.inl (nI i + 1)), o2] [] M2 := by
        intro o2 M2 c1 b2 m2 e1 e2
        have := ih o2 M2 c1 b2 m2 (by rw [if_neg (by omega)]; exact ⟨e1, e2⟩)
        rw [nI_succ] at this
        exact this
      iterate 3 refine hS _ _ _ _ ?_
      refine And.intro (fun h44 => ?_) (fun h44 => ?_)
      · exact (lp_s (n := 8) rfl hi (by omega) h44).elim
      · iterate 5 refine hS _ _ _ _ ?_
        refine sp_landAs (by omega) (by decide) hL' (fun M1 f1 l1 => ?_)
        iterate 5 refine hS _ _ _ _ ?_
        refine ⟨(by first | assumption | exact vp_in_nI (by simp only [alen]; omega) (by decide)), ?_⟩
        try rw [nI_clamp (by omega)]
        iterate 3 refine hS _ _ _ _ ?_
        generalize hM2 : mu M1 3 1 j 2 (nI i) = M2
        have l2 : LL M2 1 (upd (M 31 0 0) (12 + 4 * j) (nI i)) := by rw [← hM2]; exact l1.b2 hj
        have f2 : Fl 1 M1 M2 := by rw [← hM2]; exact Fl.mu1 (by omega)
        iterate 3 refine hS _ _ _ _ ?_
        refine sp_passNights (K := 10000) (by omega) l2 (((f1.tr f2).fn.tx hT').cg kp.2.2.2.2 rfl rfl) wf.2.1 wf.1 (by omega) (fun M3 f3 l3 => ?_)
        have fs : FrS M M3 := a1.tr ((f1.tr f2).sc.tr f3.sc)
        iterate 3 refine hS _ _ _ _ ?_
        refine sp_thoseAtHome (by omega) l3 ?_
        have h512 := homeF_512 p9
        have hhe : pcnt 9 (homeF (nightsF (upd (M 31 0 0) (12 + 4 * j) (nI i)) k)) = hhF (M 31 0 0) (12 + 4 * j) k i := rfl
        refine hS _ _ _ _ ?_
        refine sp_bitCount (by omega) (by omega) ?_
        rw [hhe]
        iterate 4 refine hS _ _ _ _ ?_
        refine And.intro (fun h96 => ?_) (fun h96 => ?_)
        · rcases Nat.eq_zero_or_pos i with z | z
          · rw [if_pos z] at hbm
            rw [hbm.2] at h96
            exact absurd h96 (by rw [Int32.not_le]; exact Int32.lt_of_lt_of_le (by decide) (nI_pos' (by have := hh9 i; omega)))
          rw [if_neg (by omega)] at hbm
          rw [hbm.2] at h96
          have hn : ¬ (amF (hhF (M 31 0 0) (12 + 4 * j) k) (i - 1)).2 < hhF (M 31 0 0) (12 + 4 * j) k i := fun y => absurd h96 (nI_ge y (by have := hh9 i; omega))
          have ea : amF (hhF (M 31 0 0) (12 + 4 * j) k) i = amF (hhF (M 31 0 0) (12 + 4 * j) k) (i - 1) := by
            obtain ⟨x, rfl⟩ : ∃ x, i = x + 1 := ⟨i - 1, by omega⟩
            rw [amF_s, Nat.add_sub_cancel] at *
            rw [if_neg hn]
          iterate 2 refine hS _ _ _ _ ?_
          exact hri _ M3 fs _ _ (by rw [ea]; exact hbm.1) (by rw [ea]; exact hbm.2)
        · have ea : amF (hhF (M 31 0 0) (12 + 4 * j) k) i = (i, hhF (M 31 0 0) (12 + 4 * j) k i) := by
            rcases Nat.eq_zero_or_pos i with z | z
            · subst z; rfl
            · rw [if_neg (by omega)] at hbm
              rw [hbm.2] at h96
              have hn : (amF (hhF (M 31 0 0) (12 + 4 * j) k) (i - 1)).2 < hhF (M 31 0 0) (12 + 4 * j) k i := Nat.lt_of_not_le fun y => h96 (nI_le y (by omega))
              obtain ⟨x, rfl⟩ : ∃ x, i = x + 1 := ⟨i - 1, by omega⟩
              rw [amF_s, Nat.add_sub_cancel] at *
              rw [if_pos hn]
          iterate 6 refine hS _ _ _ _ ?_
          exact hri _ M3 fs _ _ (by rw [ea]) (by rw [ea])
  obtain ⟨e, rfl⟩ : ∃ e, d = e + 1 := ⟨d - 1, by omega⟩
  refine td_X9_belongs ?_
  intro S hS
  iterate 3 refine hS _ _ _ _ ?_
  refine sp_isBed (by omega) hL ?_
  refine hS _ _ _ _ ?_
  refine And.intro (fun h5 => ?_) (fun h5 => ?_)
  · replace h5 := bI_f h5
    iterate 2 refine hS _ _ _ _ ?_
    rw [belongsV, iteC_f (fun z => h5 z.1)] at hV
    exact qv (hQ _ FrS.rf) hV.symm
  · replace h5 := bI_t h5
    iterate 3 refine hS _ _ _ _ ?_
    refine And.intro (fun h10 => ?_) (fun h10 => ?_)
    · iterate 2 refine hS _ _ _ _ ?_
      rw [belongsV, iteC_f (fun z => z.2.1.1 h10)] at hV
      exact qv (hQ _ FrS.rf) hV.symm
    · iterate 3 refine hS _ _ _ _ ?_
      refine And.intro (fun h16 => ?_) (fun h16 => ?_)
      · iterate 2 refine hS _ _ _ _ ?_
        rw [belongsV, iteC_f (fun z => z.2.1.2 h16)] at hV
        exact qv (hQ _ FrS.rf) hV.symm
      · iterate 2 refine hS _ _ _ _ ?_
        refine And.intro (fun h20 => ?_) (fun h20 => ?_)
        · iterate 2 refine hS _ _ _ _ ?_
          rw [belongsV, iteC_f (fun z => isBd_lo h20 (by omega) z.2.2)] at hV
          exact qv (hQ _ FrS.rf) hV.symm
        · iterate 3 refine hS _ _ _ _ ?_
          refine And.intro (fun h25 => ?_) (fun h25 => ?_)
          · have hw : isBd 2 w := (in_bd1 (n := 1) (by omega)).mp ⟨h20, Int32.not_lt.mpr h25⟩
            rw [belongsV, iteC_t ⟨h5, ⟨h10, h16⟩, hw⟩] at hV
            obtain ⟨j, hj, rfl⟩ := h5
            obtain ⟨k, hk, rfl⟩ : ∃ k, k < 61 ∧ n = nI k := (in_bd1 (n := 60) (by omega)).mp ⟨fun z => h10 (Int32.lt_trans z (by decide)), h16⟩
            rw [nI_clamp (by omega), nI_clamp (by omega)] at hV
            iterate 6 refine hS _ _ _ _ ?_
            exact clp j k hj hk W hV Q hQ _ hS (by omega)
          · iterate 2 refine hS _ _ _ _ ?_
            rw [belongsV, iteC_f (fun z => ((in_bd1 (n := 1) (by omega)).mpr z.2.2).2 (nle_lt h25))] at hV
            exact qv (hQ _ FrS.rf) hV.symm
theorem m_belongs {M : Mem} {Q : PQ} {d : Nat} {b n w : Int32} (hd : 500 ≤ d) (hI : INV M) (hQ : ∀ M', FrS M M' → Q (some (.inl (belongsV (M 31 0 0) b n w))) M') : Td PR d 177 [.inr (30, 0, 0), .inl b, .inl n, .inl w] M Q := by
  have hL := hI.ll
  have hC := hI.cn
  have hb10 := hL.b10
  have hp9 := hL.p9
  have ht14 := hL.t14
  generalize hV : belongsV (M 31 0 0) b n w = W at hQ
  obtain ⟨e, rfl⟩ : ∃ e, d = e + 1 := ⟨d - 1, by omega⟩
  refine td_X10_belongs ?_
  intro S hS
  iterate 3 refine hS _ _ _ _ ?_
  refine sm_isBed (by omega) hC ?_
  refine hS _ _ _ _ ?_
  refine And.intro (fun h5 => ?_) (fun h5 => ?_)
  · replace h5 := bI_f h5
    iterate 2 refine hS _ _ _ _ ?_
    rw [belongsV, iteC_f (fun z => h5 z.1)] at hV
    exact qv (hQ _ FrS.rf) hV.symm
  · replace h5 := bI_t h5
    iterate 4 refine hS _ _ _ _ ?_
    refine sm_in (by omega) ?_
    refine hS _ _ _ _ ?_
    refine And.intro (fun h15 => ?_) (fun h15 => ?_)
    · replace h15 := bI_f h15
      iterate 2 refine hS _ _ _ _ ?_
      rw [belongsV, iteC_f (fun z => h15 z.2.1)] at hV
      exact qv (hQ _ FrS.rf) hV.symm
    · replace h15 := bI_t h15
      iterate 4 refine hS _ _ _ _ ?_
      refine sm_in (by omega) ?_
      refine hS _ _ _ _ ?_
      refine And.intro (fun h24 => ?_) (fun h24 => ?_)
      · replace h24 := bI_f h24
        replace h24 := fun z => h24 ((in_bd1 (n := 1) (by omega)).mpr z)
        iterate 2 refine hS _ _ _ _ ?_
        rw [belongsV, iteC_f (fun z => h24 z.2.2)] at hV
        exact qv (hQ _ FrS.rf) hV.symm
      · replace h24 := bI_t h24
        replace h24 := (in_bd1 (n := 1) (by omega)).mp h24
        rw [belongsV, iteC_t ⟨h5, h15, h24⟩] at hV
        obtain ⟨j, hj, rfl⟩ := h5
        obtain ⟨k, hk, rfl⟩ : ∃ k, k < 61 ∧ n = nI k := (in_bd1 (n := 60) (by omega)).mp ⟨fun z => h15.1 (Int32.lt_trans z (by decide)), h15.2⟩
        rw [nI_clamp (by omega), nI_clamp (by omega)] at hV
        iterate 12 refine hS _ _ _ _ ?_
        rw [show (10 : Int32) + 4 * nI j + 2 = nI (12 + 4 * j) from by
            show nI 10 + nI 4 * nI j + nI 2 = _
            rw [nI_mul, nI_add, nI_add]; exact congrArg nI (by omega)]
        refine sm_mostBy (N := 8) (by omega) hI.wf (by omega) (by omega) (by omega) (by omega) (by omega) (fun v hv => Or.inl ⟨v, by omega, rfl⟩) (fun M2 a1 a2 => ?_)
        iterate 2 refine hS _ _ _ _ ?_
        exact qv (hQ _ (a1.sc a2)) hV.symm
theorem op_belongs {b n w : Int32} : OpOK 87 177 [.inl b, .inl n, .inl w] := op_q (fun M => belongsV (M 31 0 0) b n w) (fun M Q d hd hI hQ => c_belongs hd hI hQ) (fun M Q d hd hI hQ => m_belongs hd hI hQ) (fun M M' h => by simp only [h.k31])
theorem c_becomes {M : Mem} {Q : PQ} {d : Nat} {b n w : Int32} (hd : 500 ≤ d) (hI : INV M) (hQ : ∀ M', FrS M M' → Q (some (.inl (becomesV (M 31 0 0) b n w))) M') : Td PR d 88 [.inr (0, 0, 0), .inl b, .inl n, .inl w] M Q := by
  have hL := hI.ll
  have hC := hI.cn
  have hb10 := hL.b10
  have hp9 := hL.p9
  have ht14 := hL.t14
  generalize hV : becomesV (M 31 0 0) b n w = W at hQ
  have clp : ∀ j k, j < cB (M 31 0 0) → k < 61 → ∀ W, mostV (M 31 0 0) (10 + 4 * j) 6 k w = W → ∀ Q : PQ, (∀ M', FrS M M' → Q (some (.inl W)) M') → ∀ {e : Nat} (S : CF), Clo (Td PR e) (some .int) T_X9_becomes Q S → 20 ≤ e → S 40 [some (.inr (0, 0, 0)), some (.inl (nI j)), some (.inl (nI k)), some (.inl w), some (.inl 0), some (.inl (-1)), some (.inl 0), none] [] M := by
    intro j k hj hk W hV Q hQ e S hS he
    have hh9 : ∀ v, hhF (M 31 0 0) (10 + 4 * j) k v ≤ 9 := fun v => pcnt_le 9 _
    refine lp_up (T := fun i => ∀ o M', FrS M M' → ∀ b m, (if i = 0 then b = 0 ∧ m = -1 else b = nI (amF (hhF (M 31 0 0) (10 + 4 * j) k) (i - 1)).1 ∧ m = nI (amF (hhF (M 31 0 0) (10 + 4 * j) k) (i - 1)).2) → S 40 [some (.inr (0, 0, 0)), some (.inl (nI j)), some (.inl (nI k)), some (.inl w), some (.inl b), some (.inl m), some (.inl (nI i)), o] [] M') (N := 6) ?_ ?_ 0 (Nat.zero_le _) none M FrS.rf 0 (-1) (by rw [if_pos rfl]; exact ⟨rfl, rfl⟩)
    · intro o M' a1 b m hbm
      rw [if_neg (by decide)] at hbm
      obtain ⟨rfl, rfl⟩ := hbm
      iterate 3 refine hS _ _ _ _ ?_
      refine And.intro (fun h44 => ?_) (fun h44 => ?_)
      · iterate 2 refine hS _ _ _ _ ?_
        refine And.intro (fun h114 => ?_) (fun h114 => ?_)
        · iterate 2 refine hS _ _ _ _ ?_
          rw [mostV, if_neg h114] at hV
          exact qv (hQ _ a1) hV.symm
        · iterate 3 refine hS _ _ _ _ ?_
          rw [mostV, if_pos h114] at hV
          exact qv (hQ _ a1) hV.symm
      · exact (lp_x (n := 6) rfl h44).elim
    · intro i hi ih o M' a1 b m hbm
      have hI' := hI.sc a1
      have hL' : LL M' 0 (M 31 0 0) := by rw [← a1.1]; exact hI'.ll
      have hT' : TX M' (M 31 0 0) := by rw [← a1.1]; exact hI'.tx
      have wf := wf_bed (v := nI i) (k := 10 + 4 * j) hI.wf (by omega) (by omega) (Or.inr ⟨j, rfl⟩)
      have kp : KP (M 31 0 0) (upd (M 31 0 0) (10 + 4 * j) (nI i)) := KP.up (by omega)
      have p9 : cP (nightsF (upd (M 31 0 0) (10 + 4 * j) (nI i)) k) ≤ 9 := by rw [(nights_kn wf.1 k).cp, kp.cp]; exact hp9
      have hle := (amF_le hh9 (i - 1))
      have hri : ∀ o2 M2, FrS M M2 → ∀ b2 m2, b2 = nI (amF (hhF (M 31 0 0) (10 + 4 * j) k) i).1 → m2 = nI (amF (hhF (M 31 0 0) (10 + 4 * j) k) i).2 → S 40 [some (.inr (0, 0, 0)), some (.inl (nI j)), some (.inl (nI k)), some (.inl w), some (.inl b2), some (.inl m2), some (.inl (nI i + 1)), o2] [] M2 := by
        intro o2 M2 c1 b2 m2 e1 e2
        have := ih o2 M2 c1 b2 m2 (by rw [if_neg (by omega)]; exact ⟨e1, e2⟩)
        rw [nI_succ] at this
        exact this
      iterate 3 refine hS _ _ _ _ ?_
      refine And.intro (fun h44 => ?_) (fun h44 => ?_)
      · exact (lp_s (n := 6) rfl hi (by omega) h44).elim
      · iterate 5 refine hS _ _ _ _ ?_
        refine sp_landAs (by omega) (by decide) hL' (fun M1 f1 l1 => ?_)
        iterate 5 refine hS _ _ _ _ ?_
        refine ⟨(by first | assumption | exact vp_in_nI (by simp only [alen]; omega) (by decide)), ?_⟩
        try rw [nI_clamp (by omega)]
        iterate 3 refine hS _ _ _ _ ?_
        generalize hM2 : mu M1 3 1 j 0 (nI i) = M2
        have l2 : LL M2 1 (upd (M 31 0 0) (10 + 4 * j) (nI i)) := by rw [← hM2]; exact l1.b0 hj
        have f2 : Fl 1 M1 M2 := by rw [← hM2]; exact Fl.mu1 (by omega)
        iterate 3 refine hS _ _ _ _ ?_
        refine sp_passNights (K := 10000) (by omega) l2 (((f1.tr f2).fn.tx hT').cg kp.2.2.2.2 rfl rfl) wf.2.1 wf.1 (by omega) (fun M3 f3 l3 => ?_)
        have fs : FrS M M3 := a1.tr ((f1.tr f2).sc.tr f3.sc)
        iterate 3 refine hS _ _ _ _ ?_
        refine sp_thoseAtHome (by omega) l3 ?_
        have h512 := homeF_512 p9
        have hhe : pcnt 9 (homeF (nightsF (upd (M 31 0 0) (10 + 4 * j) (nI i)) k)) = hhF (M 31 0 0) (10 + 4 * j) k i := rfl
        refine hS _ _ _ _ ?_
        refine sp_bitCount (by omega) (by omega) ?_
        rw [hhe]
        iterate 4 refine hS _ _ _ _ ?_
        refine And.intro (fun h96 => ?_) (fun h96 => ?_)
        · rcases Nat.eq_zero_or_pos i with z | z
          · rw [if_pos z] at hbm
            rw [hbm.2] at h96
            exact absurd h96 (by rw [Int32.not_le]; exact Int32.lt_of_lt_of_le (by decide) (nI_pos' (by have := hh9 i; omega)))
          rw [if_neg (by omega)] at hbm
          rw [hbm.2] at h96
          have hn : ¬ (amF (hhF (M 31 0 0) (10 + 4 * j) k) (i - 1)).2 < hhF (M 31 0 0) (10 + 4 * j) k i := fun y => absurd h96 (nI_ge y (by have := hh9 i; omega))
          have ea : amF (hhF (M 31 0 0) (10 + 4 * j) k) i = amF (hhF (M 31 0 0) (10 + 4 * j) k) (i - 1) := by
            obtain ⟨x, rfl⟩ : ∃ x, i = x + 1 := ⟨i - 1, by omega⟩
            rw [amF_s, Nat.add_sub_cancel] at *
            rw [if_neg hn]
          iterate 2 refine hS _ _ _ _ ?_
          exact hri _ M3 fs _ _ (by rw [ea]; exact hbm.1) (by rw [ea]; exact hbm.2)
        · have ea : amF (hhF (M 31 0 0) (10 + 4 * j) k) i = (i, hhF (M 31 0 0) (10 + 4 * j) k i) := by
            rcases Nat.eq_zero_or_pos i with z | z
            · subst z; rfl
            · rw [if_neg (by omega)] at hbm
              rw [hbm.2] at h96
              have hn : (amF (hhF (M 31 0 0) (10 + 4 * j) k) (i - 1)).2 < hhF (M 31 0 0) (10 + 4 * j) k i := Nat.lt_of_not_le fun y => h96 (nI_le y (by omega))
              obtain ⟨x, rfl⟩ : ∃ x, i = x + 1 := ⟨i - 1, by omega⟩
              rw [amF_s, Nat.add_sub_cancel] at *
              rw [if_pos hn]
          iterate 6 refine hS _ _ _ _ ?_
          exact hri _ M3 fs _ _ (by rw [ea]) (by rw [ea])
  obtain ⟨e, rfl⟩ : ∃ e, d = e + 1 := ⟨d - 1, by omega⟩
  refine td_X9_becomes ?_
  intro S hS
  iterate 3 refine hS _ _ _ _ ?_
  refine sp_isBed (by omega) hL ?_
  refine hS _ _ _ _ ?_
  refine And.intro (fun h5 => ?_) (fun h5 => ?_)
  · replace h5 := bI_f h5
    iterate 2 refine hS _ _ _ _ ?_
    rw [becomesV, iteC_f (fun z => h5 z.1)] at hV
    exact qv (hQ _ FrS.rf) hV.symm
  · replace h5 := bI_t h5
    iterate 3 refine hS _ _ _ _ ?_
    refine And.intro (fun h10 => ?_) (fun h10 => ?_)
    · iterate 2 refine hS _ _ _ _ ?_
      rw [becomesV, iteC_f (fun z => z.2.1.1 h10)] at hV
      exact qv (hQ _ FrS.rf) hV.symm
    · iterate 3 refine hS _ _ _ _ ?_
      refine And.intro (fun h16 => ?_) (fun h16 => ?_)
      · iterate 2 refine hS _ _ _ _ ?_
        rw [becomesV, iteC_f (fun z => z.2.1.2 h16)] at hV
        exact qv (hQ _ FrS.rf) hV.symm
      · iterate 2 refine hS _ _ _ _ ?_
        refine And.intro (fun h20 => ?_) (fun h20 => ?_)
        · iterate 2 refine hS _ _ _ _ ?_
          rw [becomesV, iteC_f (fun z => isBd_lo h20 (by omega) z.2.2)] at hV
          exact qv (hQ _ FrS.rf) hV.symm
        · iterate 3 refine hS _ _ _ _ ?_
          refine And.intro (fun h25 => ?_) (fun h25 => ?_)
          · have hw : isBd 2 w := (in_bd1 (n := 1) (by omega)).mp ⟨h20, Int32.not_lt.mpr h25⟩
            rw [becomesV, iteC_t ⟨h5, ⟨h10, h16⟩, hw⟩] at hV
            obtain ⟨j, hj, rfl⟩ := h5
            obtain ⟨k, hk, rfl⟩ : ∃ k, k < 61 ∧ n = nI k := (in_bd1 (n := 60) (by omega)).mp ⟨fun z => h10 (Int32.lt_trans z (by decide)), h16⟩
            rw [nI_clamp (by omega), nI_clamp (by omega)] at hV
            iterate 6 refine hS _ _ _ _ ?_
            exact clp j k hj hk W hV Q hQ _ hS (by omega)
          · iterate 2 refine hS _ _ _ _ ?_
            rw [becomesV, iteC_f (fun z => ((in_bd1 (n := 1) (by omega)).mpr z.2.2).2 (nle_lt h25))] at hV
            exact qv (hQ _ FrS.rf) hV.symm
theorem m_becomes {M : Mem} {Q : PQ} {d : Nat} {b n w : Int32} (hd : 500 ≤ d) (hI : INV M) (hQ : ∀ M', FrS M M' → Q (some (.inl (becomesV (M 31 0 0) b n w))) M') : Td PR d 178 [.inr (30, 0, 0), .inl b, .inl n, .inl w] M Q := by
  have hL := hI.ll
  have hC := hI.cn
  have hb10 := hL.b10
  have hp9 := hL.p9
  have ht14 := hL.t14
  generalize hV : becomesV (M 31 0 0) b n w = W at hQ
  obtain ⟨e, rfl⟩ : ∃ e, d = e + 1 := ⟨d - 1, by omega⟩
  refine td_X10_becomes ?_
  intro S hS
  iterate 3 refine hS _ _ _ _ ?_
  refine sm_isBed (by omega) hC ?_
  refine hS _ _ _ _ ?_
  refine And.intro (fun h5 => ?_) (fun h5 => ?_)
  · replace h5 := bI_f h5
    iterate 2 refine hS _ _ _ _ ?_
    rw [becomesV, iteC_f (fun z => h5 z.1)] at hV
    exact qv (hQ _ FrS.rf) hV.symm
  · replace h5 := bI_t h5
    iterate 4 refine hS _ _ _ _ ?_
    refine sm_in (by omega) ?_
    refine hS _ _ _ _ ?_
    refine And.intro (fun h15 => ?_) (fun h15 => ?_)
    · replace h15 := bI_f h15
      iterate 2 refine hS _ _ _ _ ?_
      rw [becomesV, iteC_f (fun z => h15 z.2.1)] at hV
      exact qv (hQ _ FrS.rf) hV.symm
    · replace h15 := bI_t h15
      iterate 4 refine hS _ _ _ _ ?_
      refine sm_in (by omega) ?_
      refine hS _ _ _ _ ?_
      refine And.intro (fun h24 => ?_) (fun h24 => ?_)
      · replace h24 := bI_f h24
        replace h24 := fun z => h24 ((in_bd1 (n := 1) (by omega)).mpr z)
        iterate 2 refine hS _ _ _ _ ?_
        rw [becomesV, iteC_f (fun z => h24 z.2.2)] at hV
        exact qv (hQ _ FrS.rf) hV.symm
      · replace h24 := bI_t h24
        replace h24 := (in_bd1 (n := 1) (by omega)).mp h24
        rw [becomesV, iteC_t ⟨h5, h15, h24⟩] at hV
        obtain ⟨j, hj, rfl⟩ := h5
        obtain ⟨k, hk, rfl⟩ : ∃ k, k < 61 ∧ n = nI k := (in_bd1 (n := 60) (by omega)).mp ⟨fun z => h15.1 (Int32.lt_trans z (by decide)), h15.2⟩
        rw [nI_clamp (by omega), nI_clamp (by omega)] at hV
        iterate 10 refine hS _ _ _ _ ?_
        rw [show (10 : Int32) + 4 * nI j = nI (10 + 4 * j) from by
            show nI 10 + nI 4 * nI j = _
            rw [nI_mul, nI_add]]
        refine sm_mostBy (N := 6) (by omega) hI.wf (by omega) (by omega) (by omega) (by omega) (by omega) (fun v hv => Or.inr ⟨j, rfl⟩) (fun M2 a1 a2 => ?_)
        iterate 2 refine hS _ _ _ _ ?_
        exact qv (hQ _ (a1.sc a2)) hV.symm
theorem op_becomes {b n w : Int32} : OpOK 88 178 [.inl b, .inl n, .inl w] := op_q (fun M => becomesV (M 31 0 0) b n w) (fun M Q d hd hI hQ => c_becomes hd hI hQ) (fun M Q d hd hI hQ => m_becomes hd hI hQ) (fun M M' h => by simp only [h.k31])
