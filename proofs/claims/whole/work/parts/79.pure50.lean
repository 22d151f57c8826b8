-- 79.pure50: the reference's steps through a text
def RLo (S : CF) (M0 : Mem) (n : Nat) (f : FA) (w : Int32) (T : TK) (W : List Nat) (C : List Int32) (par : Nat) (te : Nat → Bool) : Prop := ∀ M o4, RSt M0 n f M T W C par te → S 28 [some (.inr (30, 0, 0)), some (.inl (nI par)), some (.inl (nI (noF W))), some (.inl w), o4] [] M
def RFa (Q : PQ) (M0 : Mem) (n : Nat) (f : FA) (T : TK) : Prop := ∀ M, FY M0 M → RT M n f T → Q (some (.inl 0)) M
def updB (te : Nat → Bool) (i : Nat) (v : Bool) : Nat → Bool := fun j => if j = i then v else te j
theorem updB_at {te : Nat → Bool} {i : Nat} {v : Bool} : updB te i v i = v := if_pos rfl
theorem updB_ne {te : Nat → Bool} {i j : Nat} {v : Bool} (h : j ≠ i) : updB te i v j = te j := if_neg h
theorem noF_le (W : List Nat) : noF W ≤ W.length := List.countP_le_length
section W50
variable {d n ky par : Nat} {M0 : Mem} {Q : PQ} {S : CF} {f : FA} {T : TK} {W : List Nat} {C : List Int32} {te : Nat → Bool}
theorem RLo.cg {w : Int32} {te' : Nat → Bool} (h : ∀ i, i ≤ par → te' i = te i) (q : RLo S M0 n f w T W C par te) : RLo S M0 n f w T W C par te' := fun M o4 a => q M o4 ⟨a.1, a.2.1, a.2.2.1, a.2.2.2.1, fun i hi => by rw [← h i hi]; exact a.2.2.2.2.1 i hi, a.2.2.2.2.2⟩
theorem rl_not (hS : Clo (Td PR d) (some .boolean) T_X10_takesE Q S) (hd : 8 ≤ d) (hn : n ≤ 96) (hp : par ≤ 8) (hT : TO n f T) (h1 : T.2.2.1 = 1) (hv : T.2.2.2 = 33) (h8 : noF W < 8) (h : RLo S M0 n f 1 (nt f n T) (10 :: W) C par te) : RLo S M0 n f 1 T W C par te := by
  intro M o4 hM
  have hlt := hT.lt (by omega)
  have hlen := hM.2.2.2.2.2.1
  have hr := hM.2.2.1
  have e13 : M 30 0 0 13 = 3 := by rw [hM.1.2.2.2.2.1, h1]; rfl
  have e14 : M 30 0 0 14 = 33 := (hM.1.2.2.2.2.2 (Or.inl h1)).trans hv
  iterate 2 refine hS _ _ _ _ ?_
  refine And.intro (fun _ => ?_) (fun h => absurd h (by decide))
  iterate 2 refine hS _ _ _ _ ?_
  refine And.intro (fun h => absurd h (by decide)) (fun _ => ?_)
  iterate 4 refine hS _ _ _ _ ?_
  refine And.intro (fun h48 => ?_) (fun h48 => ?_)
  · exact absurd e13 h48
  · iterate 4 refine hS _ _ _ _ ?_
    refine And.intro (fun h57 => ?_) (fun h57 => ?_)
    · exact absurd e14 h57
    · iterate 3 refine hS _ _ _ _ ?_
      refine And.intro (fun h63 => ?_) (fun h63 => ?_)
      · exact absurd h63 (nI_ge (b := 8) h8 (by omega))
      · iterate 6 refine hS _ _ _ _ ?_
        rw [show gfv M 30 0 0 23 = .inl (nI W.length) from congrArg Sum.inl hr.1]
        refine ⟨(by first | assumption | exact vp_in_nI (by simp only [alen]; omega) (by decide)), ?_⟩
        try rw [nI_clamp (by omega)]
        iterate 9 refine hS _ _ _ _ ?_
        refine sm_gox (W := 10 :: W) (C := C) (par := par) (te := te) (by omega) hn hT (by omega) (hM.pre (by omega) (by omega) (GT.b (GT.a GT.rf (by omega)) (by omega)) (RS.push hr (by decide) (by decide) rfl (by rw [mz_k (by decide), hr.1]; exact (nI_succ _).symm)) (by rw [mz_sl (by decide), mz_k (by decide)]; exact hM.2.2.2.1) (fun i hi => by rw [mz_k (by decide), mz_k (by decide)]; exact hM.2.2.2.2.1 i hi) (by rw [List.length_cons]; omega)) (fun M1 g1 => ?_)
        iterate 3 refine hS _ _ _ _ ?_
        refine sm_nots (W := 10 :: W) (C := C) (by omega) g1.2.2.1 (by rw [List.length_cons]; omega) ?_
        iterate 2 refine hS _ _ _ _ ?_
        exact h M1 _ g1
theorem rl_open (hS : Clo (Td PR d) (some .boolean) T_X10_takesE Q S) (hd : 8 ≤ d) (hn : n ≤ 96) (hT : TO n f T) (h1 : T.2.2.1 = 1) (hv : T.2.2.2 = 40) (h8 : par < 8) (h : RLo S M0 n f 1 (nt f n T) (11 :: W) C (par + 1) (updB te (par + 1) false)) : RLo S M0 n f 1 T W C par te := by
  intro M o4 hM
  have hlt := hT.lt (by omega)
  have hlen := hM.2.2.2.2.2.1
  have hr := hM.2.2.1
  have e13 : M 30 0 0 13 = 3 := by rw [hM.1.2.2.2.2.1, h1]; rfl
  have e14 : M 30 0 0 14 = 40 := (hM.1.2.2.2.2.2 (Or.inl h1)).trans hv
  iterate 2 refine hS _ _ _ _ ?_
  refine And.intro (fun _ => ?_) (fun h => absurd h (by decide))
  iterate 2 refine hS _ _ _ _ ?_
  refine And.intro (fun h => absurd h (by decide)) (fun _ => ?_)
  iterate 4 refine hS _ _ _ _ ?_
  refine And.intro (fun h48 => ?_) (fun h48 => ?_)
  · exact absurd e13 h48
  · iterate 4 refine hS _ _ _ _ ?_
    refine And.intro (fun h57 => ?_) (fun h57 => ?_)
    · iterate 4 refine hS _ _ _ _ ?_
      refine And.intro (fun h102 => ?_) (fun h102 => ?_)
      · exact absurd e13 h102
      · iterate 4 refine hS _ _ _ _ ?_
        refine And.intro (fun h111 => ?_) (fun h111 => ?_)
        · exact absurd e14 h111
        · iterate 3 refine hS _ _ _ _ ?_
          refine And.intro (fun h117 => ?_) (fun h117 => ?_)
          · exact absurd h117 (nI_ge (b := 8) h8 (by omega))
          · iterate 6 refine hS _ _ _ _ ?_
            rw [show gfv M 30 0 0 23 = .inl (nI W.length) from congrArg Sum.inl hr.1]
            refine ⟨(by first | assumption | exact vp_in_nI (by simp only [alen]; omega) (by decide)), ?_⟩
            try rw [nI_clamp (by omega)]
            iterate 12 refine hS _ _ _ _ ?_
            rw [← nI_succ par]
            refine ⟨(by first | assumption | exact vp_in_nI (by simp only [alen]; omega) (by decide)), by decide, ?_⟩
            try rw [nI_clamp (by omega)]
            iterate 2 refine hS _ _ _ _ ?_
            refine sm_gox (W := 11 :: W) (C := C) (par := par + 1) (te := updB te (par + 1) false) (by omega) hn hT (by omega) (hM.pre (by omega) (by omega) (GT.a (GT.b (GT.a GT.rf (by omega)) (by omega)) (by omega)) (RS.cg (RS.push (v := -11) hr (by decide) (by decide) rfl (by rw [mz_k (by decide), hr.1]; exact (nI_succ _).symm)) (by rw [mz_k (by decide)]) (by rw [mz_k (by decide)]) (mz_k (by decide)) (mz_k (by decide))) (by rw [mz_k (by decide), mz_sl (by decide), mz_k (by decide)]; exact hM.2.2.2.1) (fun i hi => ?_) (by rw [List.length_cons]; omega)) (fun M1 g1 => ?_)
            · by_cases z : i = par + 1
              · subst z; rw [mz_at, updB_at]; rfl
              · rw [mz_sl z, updB_ne z, mz_k (by decide), mz_k (by decide)]; exact hM.2.2.2.2.1 i (by omega)
            iterate 3 refine hS _ _ _ _ ?_
            refine sm_nots (W := 11 :: W) (C := C) (by omega) g1.2.2.1 (by rw [List.length_cons]; omega) ?_
            iterate 2 refine hS _ _ _ _ ?_
            exact h M1 _ g1
    · exact absurd (e14.symm.trans h57) (by decide)
theorem rl_part (hS : Clo (Td PR d) (some .boolean) T_X10_takesE Q S) (hd : 8 ≤ d) (hn : n ≤ 96) (hk : ky < 3) (ek : M0 30 0 0 16 = nI ky) (hT : TO n f T) (v : Int32) (hv : (T.2.2.1 = 3 ∧ v = T.2.2.2) ∨ (T.2.2.1 = 2 ∧ ¬ nmF T ky < 0 ∧ v = 10000 + nmF T ky)) (h : RLo S M0 n f 0 (nt f n T) (seF 6 W (C ++ [v])).1 (seF 6 W (C ++ [v])).2 par te) : RLo S M0 n f 1 T W C par te := by
  intro M o4 hM
  have h1 : T.2.2.1 ≠ 1 := by rcases hv with ⟨a, b⟩ | ⟨a, b, c⟩ <;> omega
  have hlt := hT.lt (by rcases hv with ⟨a, b⟩ | ⟨a, b, c⟩ <;> omega)
  have hlen := hM.2.2.2.2.2.1
  have e13 : ¬ M 30 0 0 13 = 3 := by rw [hM.1.2.2.2.2.1]; exact fun z => h1 ((rkT_n _ hT.1.2.2.1).2.2.2.mp z)
  iterate 2 refine hS _ _ _ _ ?_
  refine And.intro (fun _ => ?_) (fun h => absurd h (by decide))
  iterate 2 refine hS _ _ _ _ ?_
  refine And.intro (fun h => absurd h (by decide)) (fun _ => ?_)
  iterate 4 refine hS _ _ _ _ ?_
  refine And.intro (fun h48 => ?_) (fun h48 => ?_)
  · iterate 4 refine hS _ _ _ _ ?_
    refine And.intro (fun h102 => ?_) (fun h102 => ?_)
    · iterate 2 refine hS _ _ _ _ ?_
      refine sm_takesPart (par := par) (te := te) (W := W) (C := C) (by omega) hn hk hT ek hM (fun v' hv' M1 g1 => ?_) (fun z1 z2 => absurd hv (fun z => z.elim (fun y => z1 y.1) (fun y => y.2.1 (z2 y.1))))
      have evv : v' = v := by
        rcases hv with ⟨a, b⟩ | ⟨a, b, c⟩ <;> rcases hv' with ⟨a', b'⟩ | ⟨a', b', c'⟩
        · exact b'.trans b.symm
        · omega
        · omega
        · exact c'.trans c.symm
      rw [evv] at g1
      refine hS _ _ _ _ ?_
      refine And.intro (fun h162 => ?_) (fun h162 => ?_)
      · exact absurd h162 (by decide)
      · iterate 5 refine hS _ _ _ _ ?_
        refine sm_nots (W := (seF 6 W (C ++ [v])).1) (C := (seF 6 W (C ++ [v])).2) (by omega) g1.2.2.1 (by have := seF_len (r := 6) W (C ++ [v]); rw [List.length_append, List.length_singleton] at this; omega) ?_
        iterate 2 refine hS _ _ _ _ ?_
        exact h M1 _ g1
    · exact absurd h102 e13
  · exact absurd h48 e13
theorem rl_bad (hS : Clo (Td PR d) (some .boolean) T_X10_takesE Q S) (hd : 8 ≤ d) (hn : n ≤ 96) (hp : par ≤ 8) (hk : ky < 3) (ek : M0 30 0 0 16 = nI ky) (hT : TO n f T) (h3 : ¬ T.2.2.1 = 3) (h2 : T.2.2.1 = 2 → nmF T ky < 0) (hn1 : ¬ (T.2.2.1 = 1 ∧ T.2.2.2 = 33 ∧ noF W < 8)) (hn2 : ¬ (T.2.2.1 = 1 ∧ T.2.2.2 = 40 ∧ par < 8)) (h : RFa Q M0 n f T) : RLo S M0 n f 1 T W C par te := by
  intro M o4 hM
  have hr3 := (rkT_n _ hT.1.2.2.1).2.2.2
  have e13 : M 30 0 0 13 = 3 → T.2.2.1 = 1 := fun z => hr3.mp (hM.1.2.2.2.2.1.symm.trans z)
  have e14 : T.2.2.1 = 1 → M 30 0 0 14 = T.2.2.2 := fun z => hM.1.2.2.2.2.2 (Or.inl z)
  have hlen := hM.2.2.2.2.2.1
  have hno := noF_le W
  have hT1 := hT.1.1
  have hT2 := hT.1.2.1
  iterate 2 refine hS _ _ _ _ ?_
  refine And.intro (fun _ => ?_) (fun h => absurd h (by decide))
  iterate 2 refine hS _ _ _ _ ?_
  refine And.intro (fun h => absurd h (by decide)) (fun _ => ?_)
  iterate 4 refine hS _ _ _ _ ?_
  refine And.intro (fun h48 => ?_) (fun h48 => ?_)
  · iterate 4 refine hS _ _ _ _ ?_
    refine And.intro (fun h102 => ?_) (fun h102 => ?_)
    · iterate 2 refine hS _ _ _ _ ?_
      refine sm_takesPart (par := par) (te := te) (W := W) (C := C) (by omega) hn hk hT ek hM (fun v' hv' M1 g1 => absurd hv' (fun z => z.elim (fun y => h3 y.1) (fun y => y.2.1 (h2 y.1)))) (fun _ _ => ?_)
      refine hS _ _ _ _ ?_
      refine And.intro (fun h162 => ?_) (fun h162 => ?_)
      · iterate 2 refine hS _ _ _ _ ?_
        refine ⟨rfl, ?_⟩
        exact h M hM.2.2.2.2.2.2 hM.1
      · exact absurd rfl h162
    · iterate 4 refine hS _ _ _ _ ?_
      refine And.intro (fun h111 => ?_) (fun h111 => ?_)
      · iterate 2 refine hS _ _ _ _ ?_
        refine sm_takesPart (par := par) (te := te) (W := W) (C := C) (by omega) hn hk hT ek hM (fun v' hv' M1 g1 => absurd hv' (fun z => z.elim (fun y => h3 y.1) (fun y => y.2.1 (h2 y.1)))) (fun _ _ => ?_)
        refine hS _ _ _ _ ?_
        refine And.intro (fun h162 => ?_) (fun h162 => ?_)
        · iterate 2 refine hS _ _ _ _ ?_
          refine ⟨rfl, ?_⟩
          exact h M hM.2.2.2.2.2.2 hM.1
        · exact absurd rfl h162
      · iterate 3 refine hS _ _ _ _ ?_
        refine And.intro (fun h117 => ?_) (fun h117 => ?_)
        · iterate 2 refine hS _ _ _ _ ?_
          refine sm_takesPart (par := par) (te := te) (W := W) (C := C) (by omega) hn hk hT ek hM (fun v' hv' M1 g1 => absurd hv' (fun z => z.elim (fun y => h3 y.1) (fun y => y.2.1 (h2 y.1)))) (fun _ _ => ?_)
          refine hS _ _ _ _ ?_
          refine And.intro (fun h162 => ?_) (fun h162 => ?_)
          · iterate 2 refine hS _ _ _ _ ?_
            refine ⟨rfl, ?_⟩
            exact h M hM.2.2.2.2.2.2 hM.1
          · exact absurd rfl h162
        · exact (hn2 ⟨e13 h102, (e14 (e13 h102)).symm.trans h111, Nat.lt_of_not_le fun y => h117 (nI_le (a := 8) y (by omega))⟩).elim
  · iterate 4 refine hS _ _ _ _ ?_
    refine And.intro (fun h57 => ?_) (fun h57 => ?_)
    · iterate 4 refine hS _ _ _ _ ?_
      refine And.intro (fun h102 => ?_) (fun h102 => ?_)
      · iterate 2 refine hS _ _ _ _ ?_
        refine sm_takesPart (par := par) (te := te) (W := W) (C := C) (by omega) hn hk hT ek hM (fun v' hv' M1 g1 => absurd hv' (fun z => z.elim (fun y => h3 y.1) (fun y => y.2.1 (h2 y.1)))) (fun _ _ => ?_)
        refine hS _ _ _ _ ?_
        refine And.intro (fun h162 => ?_) (fun h162 => ?_)
        · iterate 2 refine hS _ _ _ _ ?_
          refine ⟨rfl, ?_⟩
          exact h M hM.2.2.2.2.2.2 hM.1
        · exact absurd rfl h162
      · iterate 4 refine hS _ _ _ _ ?_
        refine And.intro (fun h111 => ?_) (fun h111 => ?_)
        · iterate 2 refine hS _ _ _ _ ?_
          refine sm_takesPart (par := par) (te := te) (W := W) (C := C) (by omega) hn hk hT ek hM (fun v' hv' M1 g1 => absurd hv' (fun z => z.elim (fun y => h3 y.1) (fun y => y.2.1 (h2 y.1)))) (fun _ _ => ?_)
          refine hS _ _ _ _ ?_
          refine And.intro (fun h162 => ?_) (fun h162 => ?_)
          · iterate 2 refine hS _ _ _ _ ?_
            refine ⟨rfl, ?_⟩
            exact h M hM.2.2.2.2.2.2 hM.1
          · exact absurd rfl h162
        · iterate 3 refine hS _ _ _ _ ?_
          refine And.intro (fun h117 => ?_) (fun h117 => ?_)
          · iterate 2 refine hS _ _ _ _ ?_
            refine sm_takesPart (par := par) (te := te) (W := W) (C := C) (by omega) hn hk hT ek hM (fun v' hv' M1 g1 => absurd hv' (fun z => z.elim (fun y => h3 y.1) (fun y => y.2.1 (h2 y.1)))) (fun _ _ => ?_)
            refine hS _ _ _ _ ?_
            refine And.intro (fun h162 => ?_) (fun h162 => ?_)
            · iterate 2 refine hS _ _ _ _ ?_
              refine ⟨rfl, ?_⟩
              exact h M hM.2.2.2.2.2.2 hM.1
            · exact absurd rfl h162
          · exact (hn2 ⟨e13 h102, (e14 (e13 h102)).symm.trans h111, Nat.lt_of_not_le fun y => h117 (nI_le (a := 8) y (by omega))⟩).elim
    · iterate 3 refine hS _ _ _ _ ?_
      refine And.intro (fun h63 => ?_) (fun h63 => ?_)
      · iterate 4 refine hS _ _ _ _ ?_
        refine And.intro (fun h102 => ?_) (fun h102 => ?_)
        · iterate 2 refine hS _ _ _ _ ?_
          refine sm_takesPart (par := par) (te := te) (W := W) (C := C) (by omega) hn hk hT ek hM (fun v' hv' M1 g1 => absurd hv' (fun z => z.elim (fun y => h3 y.1) (fun y => y.2.1 (h2 y.1)))) (fun _ _ => ?_)
          refine hS _ _ _ _ ?_
          refine And.intro (fun h162 => ?_) (fun h162 => ?_)
          · iterate 2 refine hS _ _ _ _ ?_
            refine ⟨rfl, ?_⟩
            exact h M hM.2.2.2.2.2.2 hM.1
          · exact absurd rfl h162
        · iterate 4 refine hS _ _ _ _ ?_
          refine And.intro (fun h111 => ?_) (fun h111 => ?_)
          · iterate 2 refine hS _ _ _ _ ?_
            refine sm_takesPart (par := par) (te := te) (W := W) (C := C) (by omega) hn hk hT ek hM (fun v' hv' M1 g1 => absurd hv' (fun z => z.elim (fun y => h3 y.1) (fun y => y.2.1 (h2 y.1)))) (fun _ _ => ?_)
            refine hS _ _ _ _ ?_
            refine And.intro (fun h162 => ?_) (fun h162 => ?_)
            · iterate 2 refine hS _ _ _ _ ?_
              refine ⟨rfl, ?_⟩
              exact h M hM.2.2.2.2.2.2 hM.1
            · exact absurd rfl h162
          · iterate 3 refine hS _ _ _ _ ?_
            refine And.intro (fun h117 => ?_) (fun h117 => ?_)
            · iterate 2 refine hS _ _ _ _ ?_
              refine sm_takesPart (par := par) (te := te) (W := W) (C := C) (by omega) hn hk hT ek hM (fun v' hv' M1 g1 => absurd hv' (fun z => z.elim (fun y => h3 y.1) (fun y => y.2.1 (h2 y.1)))) (fun _ _ => ?_)
              refine hS _ _ _ _ ?_
              refine And.intro (fun h162 => ?_) (fun h162 => ?_)
              · iterate 2 refine hS _ _ _ _ ?_
                refine ⟨rfl, ?_⟩
                exact h M hM.2.2.2.2.2.2 hM.1
              · exact absurd rfl h162
            · exact (hn2 ⟨e13 h102, (e14 (e13 h102)).symm.trans h111, Nat.lt_of_not_le fun y => h117 (nI_le (a := 8) y (by omega))⟩).elim
      · exact (hn1 ⟨e13 h48, (e14 (e13 h48)).symm.trans h57, Nat.lt_of_not_le fun y => h63 (nI_le (a := 8) y (by omega))⟩).elim
theorem rl_close {W0 : List Nat} (hS : Clo (Td PR d) (some .boolean) T_X10_takesE Q S) (hd : 8 ≤ d) (hn : n ≤ 96) (hp : par < 8) (hT : TO n f T) (h1 : T.2.2.1 = 1) (hv : T.2.2.2 = 41) (hW : (seF 0 W C).1 = 11 :: W0) (h : RLo S M0 n f 0 (nt f n T) (seF 6 W0 (seF 0 W C).2).1 (seF 6 W0 (seF 0 W C).2).2 par te) : RLo S M0 n f 0 T W C (par + 1) te := by
  intro M o4 hM
  have hlt := hT.lt (by omega)
  have hlen := hM.2.2.2.2.2.1
  have hr := hM.2.2.1
  have e13 : M 30 0 0 13 = 3 := by rw [hM.1.2.2.2.2.1, h1]; rfl
  have e14 : M 30 0 0 14 = 41 := (hM.1.2.2.2.2.2 (Or.inl h1)).trans hv
  have hl1 := seF_len (r := 0) W C
  have hl2 := seF_len (r := 6) W0 (seF 0 W C).2
  rw [hW, List.length_cons] at hl1
  iterate 2 refine hS _ _ _ _ ?_
  refine And.intro (fun h => absurd h (by decide)) (fun _ => ?_)
  iterate 3 refine hS _ _ _ _ ?_
  refine And.intro (fun h36 => ?_) (fun h36 => ?_)
  · exact absurd (e13.symm.trans h36) (by decide)
  · iterate 2 refine hS _ _ _ _ ?_
    refine And.intro (fun _ => ?_) (fun h => absurd h (by decide))
    iterate 4 refine hS _ _ _ _ ?_
    refine And.intro (fun h185 => ?_) (fun h185 => ?_)
    · exact absurd e13 h185
    · iterate 4 refine hS _ _ _ _ ?_
      refine And.intro (fun h194 => ?_) (fun h194 => ?_)
      · exact absurd e14 h194
      · iterate 2 refine hS _ _ _ _ ?_
        refine And.intro (fun h198 => ?_) (fun h198 => ?_)
        · exact absurd (show nI (par + 1) ≤ nI 0 from h198) (nI_ge (by omega) (by omega))
        · iterate 3 refine hS _ _ _ _ ?_
          refine sm_settle (r := 0) (W := W) (C := C) (by omega) (by decide) (by omega) hr (fun M1 g1 g2 => ?_)
          rw [hW] at g2
          have e23 : M1 30 0 0 23 - 1 = nI W0.length := by rw [g2.1, List.length_cons]; exact nI_sub (b := 1) (by omega)
          have g3 := g2.drop e23
          iterate 10 refine hS _ _ _ _ ?_
          refine sm_settle (r := 6) (W := W0) (C := (seF 0 W C).2) (by omega) (by decide) (by omega) g3 (fun M2 g4 g5 => ?_)
          iterate 2 refine hS _ _ _ _ ?_
          refine sm_nots (W := (seF 6 W0 (seF 0 W C).2).1) (C := (seF 6 W0 (seF 0 W C).2).2) (by omega) g5 (by omega) ?_
          iterate 3 refine hS _ _ _ _ ?_
          refine sm_gox (W := (seF 6 W0 (seF 0 W C).2).1) (C := (seF 6 W0 (seF 0 W C).2).2) (par := par) (te := te) (by omega) hn hT (by omega) (hM.pre (by omega) (by omega) (GT.s (GT.b (GT.s GT.rf g1) (by omega)) g4) g5 ?_ (fun i hi => ?_) (by omega)) (fun M3 g6 => ?_)
          · rw [g4.2 21 (by decide) (by decide), mz_sl (by decide), g1.2 21 (by decide) (by decide), hM.2.2.2.1, seF_lv W0 _ g3.2.2.1, seF_lv W _ hr.2.2.1]
          · rw [g4.1 55 (by decide) (by decide), mz_k (by decide), g1.1 55 (by decide) (by decide)]; exact hM.2.2.2.2.1 i (by omega)
          refine hS _ _ _ _ ?_
          rw [nI_m1]
          exact h M3 _ g6
end W50
