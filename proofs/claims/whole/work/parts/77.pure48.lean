-- 77.pure48: the class reads a text
def DPc (op ng : Nat) : Nat := 10 * (8 - op) + 4 * (8 - ng) + 20
def CMo (M0 : Mem) (n : Nat) (f : FA) (ky x : Nat) : PZ := fun j op ng T b T1 ps => TO n f T → op ≤ 8 → ng ≤ 8 →
  (j ≤ 5 → ∀ d M C Q, DPc op ng + (6 - j) ≤ d → CSt M0 n f ky x M T C → C.length ≤ T.1 → (∀ M1, CPs M0 n f ky x M1 b T1 (C ++ ps) → Q (some (.inl (bI (b = true)))) M1) → Td PR d 45 [.inr (11, 0, 0), .inl (nI j), .inl (nI op), .inl (nI ng)] M Q) ∧
  (j = 11 → ∀ d M C Q, DPc op ng ≤ d → CSt M0 n f ky x M T C → C.length ≤ T.1 → (∀ M1, CPs M0 n f ky x M1 b T1 (C ++ ps) → Q (some (.inl (bI (b = true)))) M1) → Td PR d 46 [.inr (11, 0, 0), .inl (nI op), .inl (nI ng)] M Q) ∧
  (∀ l, j = 6 + l → l < 5 → ∀ d S M C Q i o6, Clo (Td PR d) (some .boolean) T_X4_readsLevel Q S → DPc op ng + (5 - l) ≤ d → CSt M0 n f ky x M T C → C.length ≤ T.1 → i ≤ T.1 → (l = 2 → i = 0) → (∀ M1, CPs M0 n f ky x M1 b T1 (C ++ ps) → Q (some (.inl (bI (b = true)))) M1) → S 42 [some (.inr (11, 0, 0)), some (.inl (nI l)), some (.inl (nI op)), some (.inl (nI ng)), some (.inl (if l = 2 then 1 else 96)), some (.inl (nI i)), o6] [] M)
theorem nI_eqf {a b : Nat} (ha : a < 1000) (hb : b < 1000) (h : ¬ a = b) : ¬ nI a = nI b := fun z => h ((nI_eq (by omega) (by omega)).mp z)
section W48
variable {n ky x : Nat} {M0 : Mem} {f : FA}
theorem dv_c (hn : n ≤ 96) (hx : x < 16) (hk : ky < 3) (hb : ∀ i, i < n → isBd 256 (f i)) {j op ng : Nat} {T T1 : TK} {b : Bool} {ps : List Int32} (h : Dv f n ky j op ng T b T1 ps) : CMo M0 n f ky x j op ng T b T1 ps := by
  refine dv_ind (CMo M0 n f ky x) ?_ ?_ ?_ ?_ ?_ ?_ ?_ ?_ ?_ ?_ ?_ ?_ h
  · intro op ng T h3 hT _ _
    refine ⟨fun z => absurd z (by omega), fun _ d M C Q hd hM hC hQ => ?_, fun l z y => absurd z (by omega)⟩
    have hlt := hT.lt (by omega)
    have e4 : M 11 0 0 4 = nI T.2.2.1 := hM.1.2.2.2.2.1
    have e5 : M 11 0 0 5 = T.2.2.2 := hM.1.2.2.2.2.2 h3
    have hdr : (M 11 0 0 6).toNatClampNeg < 16 := by rw [hM.2.1, nI_clamp (by omega)]; exact hx
    have hdx : (M 11 0 0 6).toNatClampNeg = x := by rw [hM.2.1, nI_clamp (by omega)]
    unfold DPc at hd
    obtain ⟨e, rfl⟩ : ∃ e, d = e + 1 := ⟨d - 1, by omega⟩
    refine td_X4_readsPiece ?_
    intro S hS
    iterate 4 refine hS _ _ _ _ ?_
    refine And.intro (fun h5 => ?_) (fun h5 => ?_)
    · exact absurd (e4.trans (by rw [h3]; rfl)) h5
    · iterate 2 refine hS _ _ _ _ ?_
      refine ⟨by assumption, ?_⟩
      iterate 3 refine hS _ _ _ _ ?_
      rw [gfv_dr hdx, show gfv M 11 0 0 5 = .inl T.2.2.2 from congrArg Sum.inl e5]
      refine sp_addLeaf (by omega) (by omega) hM.2.2.2.1 hM.2.2.2.2.1 ?_
      have hM1 := hM.leaf (lvN_pos (hT.2 h3) (by decide)) (phi_bd (hT.2 h3)).symm
      iterate 2 refine hS _ _ _ _ ?_
      refine sp_goOn (n := n) (f := f) (T := T) (by omega) hn hT.1.2.1 hT.1.2.2.1 hM1.1 (fun M2 g1 g2 => ?_)
      iterate 2 refine hS _ _ _ _ ?_
      refine ⟨rfl, ?_⟩
      exact qv (hQ M2 (hM1.go g1 g2).ps) (bI_p rfl)
  · intro op ng T h2 hnm hT _ _
    refine ⟨fun z => absurd z (by omega), fun _ d M C Q hd hM hC hQ => ?_, fun l z y => absurd z (by omega)⟩
    have e4 : M 11 0 0 4 = nI T.2.2.1 := hM.1.2.2.2.2.1
    unfold DPc at hd
    obtain ⟨e, rfl⟩ : ∃ e, d = e + 1 := ⟨d - 1, by omega⟩
    refine td_X4_readsPiece ?_
    intro S hS
    iterate 4 refine hS _ _ _ _ ?_
    refine And.intro (fun h5 => ?_) (fun h5 => ?_)
    · iterate 4 refine hS _ _ _ _ ?_
      refine And.intro (fun h30 => ?_) (fun h30 => ?_)
      · exact absurd (e4.trans (by rw [h2]; rfl)) h30
      · iterate 2 refine hS _ _ _ _ ?_
        refine sp_readsName (by omega) hn hx hk hb hT hM h2 hC (fun _ M1 h1 => ?_) (fun z => absurd z hnm)
        refine hS _ _ _ _ ?_
        refine ⟨rfl, ?_⟩
        exact qv (hQ M1 h1.ps) (bI_p rfl)
    · exact absurd (e4.symm.trans h5) (nI_eqf (b := 3) (by omega) (by omega) (by omega))
  · intro op ng T h3 h2 hn1 hn2 hT ho hg
    refine ⟨fun z => absurd z (by omega), fun _ d M C Q hd hM hC hQ => ?_, fun l z y => absurd z (by omega)⟩
    have e4 : M 11 0 0 4 = nI T.2.2.1 := hM.1.2.2.2.2.1
    have h4 := hT.1.2.2.1
    have hF : Q (some (.inl 0)) M := qv (hQ M ⟨hM.2.2.2.2.2.2, hM.1, fun z => absurd z (by decide)⟩) (bI_n (by decide))
    unfold DPc at hd
    obtain ⟨e, rfl⟩ : ∃ e, d = e + 1 := ⟨d - 1, by omega⟩
    refine td_X4_readsPiece ?_
    intro S hS
    iterate 4 refine hS _ _ _ _ ?_
    refine And.intro (fun h5 => ?_) (fun h5 => ?_)
    · iterate 4 refine hS _ _ _ _ ?_
      refine And.intro (fun h30 => ?_) (fun h30 => ?_)
      · iterate 3 refine hS _ _ _ _ ?_
        refine sp_isSign (n := n) (f := f) (T := T) (by omega) hn hM.1 hT.1 ?_
        refine hS _ _ _ _ ?_
        refine And.intro (fun h44 => ?_) (fun h44 => ?_)
        · replace h44 := bI_f h44
          iterate 3 refine hS _ _ _ _ ?_
          refine sp_isSign (n := n) (f := f) (T := T) (by omega) hn hM.1 hT.1 ?_
          refine hS _ _ _ _ ?_
          refine And.intro (fun h76 => ?_) (fun h76 => ?_)
          · replace h76 := bI_f h76
            iterate 2 refine hS _ _ _ _ ?_
            refine ⟨rfl, ?_⟩
            exact hF
          · replace h76 := bI_t h76
            iterate 3 refine hS _ _ _ _ ?_
            refine And.intro (fun h82 => ?_) (fun h82 => ?_)
            · iterate 2 refine hS _ _ _ _ ?_
              refine ⟨rfl, ?_⟩
              exact hF
            · exact absurd h82 (fun z => hn2 ⟨h76.1, h76.2, Nat.lt_of_not_le fun y => h82 (nI_le (a := 8) y (by omega))⟩)
        · replace h44 := bI_t h44
          iterate 3 refine hS _ _ _ _ ?_
          refine And.intro (fun h50 => ?_) (fun h50 => ?_)
          · iterate 2 refine hS _ _ _ _ ?_
            refine ⟨rfl, ?_⟩
            exact hF
          · exact absurd h50 (fun z => hn1 ⟨h44.1, h44.2, Nat.lt_of_not_le fun y => h50 (nI_le (a := 8) y (by omega))⟩)
      · have hw : T.2.2.1 = 2 := (nI_eq (b := 2) (by omega) (by decide)).mp (e4.symm.trans h30)
        iterate 2 refine hS _ _ _ _ ?_
        refine sp_readsName (by omega) hn hx hk hb hT hM hw hC (fun z => absurd (h2 hw) z) (fun _ => ?_)
        refine hS _ _ _ _ ?_
        refine ⟨rfl, ?_⟩
        exact hF
    · exact absurd (e4.symm.trans h5) (nI_eqf (b := 3) (by omega) (by omega) h3)
  · intro op ng T b T1 ps h1 hv hg8 hdv ih hT ho hg
    obtain ⟨-, ih2, -⟩ := ih hT.nt.1 ho (by omega)
    obtain ⟨o1, o2, o3⟩ := dv_pf hk hdv hT.nt.1
    have hl : b = true → ps.length + (nt f n T).1 ≤ T1.1 ∧ T1.1 ≤ n := fun z => ⟨(o3 z).1, Nat.le_trans o1.1.1 o1.1.2.1⟩
    refine ⟨fun z => absurd z (by omega), fun _ d M C Q hd hM hC hQ => ?_, fun l z y => absurd z (by omega)⟩
    have e4 : M 11 0 0 4 = nI T.2.2.1 := hM.1.2.2.2.2.1
    unfold DPc at hd
    obtain ⟨e, rfl⟩ : ∃ e, d = e + 1 := ⟨d - 1, by omega⟩
    refine td_X4_readsPiece ?_
    intro S hS
    iterate 4 refine hS _ _ _ _ ?_
    refine And.intro (fun h5 => ?_) (fun h5 => ?_)
    · iterate 4 refine hS _ _ _ _ ?_
      refine And.intro (fun h30 => ?_) (fun h30 => ?_)
      · iterate 3 refine hS _ _ _ _ ?_
        refine sp_isSign (n := n) (f := f) (T := T) (by omega) hn hM.1 hT.1 ?_
        refine hS _ _ _ _ ?_
        refine And.intro (fun h44 => ?_) (fun h44 => ?_)
        · replace h44 := bI_f h44
          exact absurd ⟨h1, hv⟩ h44
        · replace h44 := bI_t h44
          iterate 3 refine hS _ _ _ _ ?_
          refine And.intro (fun h50 => ?_) (fun h50 => ?_)
          · exact absurd h50 (nI_ge (b := 8) hg8 (by omega))
          · iterate 6 refine hS _ _ _ _ ?_
            rw [← nI_succ]
            refine sp_readsNegated (by omega) hn hx hT hM h1 hC hl (fun e' he M C Q a1 a2 a3 => ih2 rfl e' M C Q (by unfold DPc; omega) a1 a2 a3) (fun M1 c1 => ?_)
            refine hS _ _ _ _ ?_
            refine And.intro (fun h61 => ?_) (fun h61 => ?_)
            · replace h61 := bI_f h61
              iterate 2 refine hS _ _ _ _ ?_
              refine ⟨rfl, ?_⟩
              exact qv (hQ M1 c1) (bI_n h61)
            · replace h61 := bI_t h61
              iterate 3 refine hS _ _ _ _ ?_
              refine ⟨rfl, ?_⟩
              exact qv (hQ M1 c1) (bI_p h61)
      · exact absurd (e4.symm.trans h30) (nI_eqf (b := 2) (by omega) (by omega) (by omega))
    · exact absurd (e4.symm.trans h5) (nI_eqf (b := 3) (by omega) (by omega) (by omega))
  · intro op ng T T1 ps h1 hv ho8 c1 c2 hdv ih hT ho hg
    obtain ⟨ih2, -, -⟩ := ih hT.nt.1 (by omega) hg
    obtain ⟨o1, o2, o3⟩ := dv_pf hk hdv hT.nt.1
    refine ⟨fun z => absurd z (by omega), fun _ d M C Q hd hM hC hQ => ?_, fun l z y => absurd z (by omega)⟩
    have e4 : M 11 0 0 4 = nI T.2.2.1 := hM.1.2.2.2.2.1
    unfold DPc at hd
    have hq : ∀ M1, CSt M0 n f ky x M1 (nt f n T1) (C ++ ps) → Q (some (.inl 1)) M1 := fun M1 q => qv (hQ M1 q.ps) (bI_p rfl)
    obtain ⟨e, rfl⟩ : ∃ e, d = e + 1 := ⟨d - 1, by omega⟩
    refine td_X4_readsPiece ?_
    intro S hS
    iterate 4 refine hS _ _ _ _ ?_
    refine And.intro (fun h5 => ?_) (fun h5 => ?_)
    · iterate 4 refine hS _ _ _ _ ?_
      refine And.intro (fun h30 => ?_) (fun h30 => ?_)
      · iterate 3 refine hS _ _ _ _ ?_
        refine sp_isSign (n := n) (f := f) (T := T) (by omega) hn hM.1 hT.1 ?_
        refine hS _ _ _ _ ?_
        refine And.intro (fun h44 => ?_) (fun h44 => ?_)
        · replace h44 := bI_f h44
          iterate 3 refine hS _ _ _ _ ?_
          refine sp_isSign (n := n) (f := f) (T := T) (by omega) hn hM.1 hT.1 ?_
          refine hS _ _ _ _ ?_
          refine And.intro (fun h76 => ?_) (fun h76 => ?_)
          · replace h76 := bI_f h76
            exact absurd ⟨h1, hv⟩ h76
          · replace h76 := bI_t h76
            iterate 3 refine hS _ _ _ _ ?_
            refine And.intro (fun h82 => ?_) (fun h82 => ?_)
            · exact absurd h82 (nI_ge (b := 8) ho8 (by omega))
            · iterate 6 refine hS _ _ _ _ ?_
              rw [← nI_succ]
              refine sp_readsBracket (by omega) hn hT hM h1 hC o1 (fun e' he M C Q a1 a2 a3 => ih2 (by omega) e' M C Q (by unfold DPc; omega) a1 a2 a3) (fun _ _ _ M1 c1 => ?_) (fun z => absurd ⟨rfl, c1, c2⟩ z)
              refine hS _ _ _ _ ?_
              refine And.intro (fun h93 => ?_) (fun h93 => ?_)
              · exact absurd h93 (by decide)
              · iterate 3 refine hS _ _ _ _ ?_
                refine ⟨rfl, ?_⟩
                exact hq M1 c1
        · replace h44 := bI_t h44
          exact absurd (hv.symm.trans h44.2) (by decide)
      · exact absurd (e4.symm.trans h30) (nI_eqf (b := 2) (by omega) (by omega) (by omega))
    · exact absurd (e4.symm.trans h5) (nI_eqf (b := 3) (by omega) (by omega) (by omega))
  · intro op ng T b T1 ps h1 hv ho8 c1 hdv ih hT ho hg
    obtain ⟨ih2, -, -⟩ := ih hT.nt.1 (by omega) hg
    obtain ⟨o1, o2, o3⟩ := dv_pf hk hdv hT.nt.1
    refine ⟨fun z => absurd z (by omega), fun _ d M C Q hd hM hC hQ => ?_, fun l z y => absurd z (by omega)⟩
    have e4 : M 11 0 0 4 = nI T.2.2.1 := hM.1.2.2.2.2.1
    unfold DPc at hd
    have hq : ∀ M1, FX M0 x M1 → CT M1 n f T1 → Q (some (.inl 0)) M1 := fun M1 q1 q2 => qv (hQ M1 ⟨q1, q2, fun z => absurd z (by decide)⟩) (bI_n (by decide))
    obtain ⟨e, rfl⟩ : ∃ e, d = e + 1 := ⟨d - 1, by omega⟩
    refine td_X4_readsPiece ?_
    intro S hS
    iterate 4 refine hS _ _ _ _ ?_
    refine And.intro (fun h5 => ?_) (fun h5 => ?_)
    · iterate 4 refine hS _ _ _ _ ?_
      refine And.intro (fun h30 => ?_) (fun h30 => ?_)
      · iterate 3 refine hS _ _ _ _ ?_
        refine sp_isSign (n := n) (f := f) (T := T) (by omega) hn hM.1 hT.1 ?_
        refine hS _ _ _ _ ?_
        refine And.intro (fun h44 => ?_) (fun h44 => ?_)
        · replace h44 := bI_f h44
          iterate 3 refine hS _ _ _ _ ?_
          refine sp_isSign (n := n) (f := f) (T := T) (by omega) hn hM.1 hT.1 ?_
          refine hS _ _ _ _ ?_
          refine And.intro (fun h76 => ?_) (fun h76 => ?_)
          · replace h76 := bI_f h76
            exact absurd ⟨h1, hv⟩ h76
          · replace h76 := bI_t h76
            iterate 3 refine hS _ _ _ _ ?_
            refine And.intro (fun h82 => ?_) (fun h82 => ?_)
            · exact absurd h82 (nI_ge (b := 8) ho8 (by omega))
            · iterate 6 refine hS _ _ _ _ ?_
              rw [← nI_succ]
              refine sp_readsBracket (by omega) hn hT hM h1 hC o1 (fun e' he M C Q a1 a2 a3 => ih2 (by omega) e' M C Q (by unfold DPc; omega) a1 a2 a3) (fun z1 z2 z3 => absurd ⟨z2, z3⟩ (c1 z1)) (fun _ M1 c1 c2 => ?_)
              refine hS _ _ _ _ ?_
              refine And.intro (fun h93 => ?_) (fun h93 => ?_)
              · iterate 2 refine hS _ _ _ _ ?_
                refine ⟨rfl, ?_⟩
                exact hq M1 c1 c2
              · exact absurd rfl h93
        · replace h44 := bI_t h44
          exact absurd (hv.symm.trans h44.2) (by decide)
      · exact absurd (e4.symm.trans h30) (nI_eqf (b := 2) (by omega) (by omega) (by omega))
    · exact absurd (e4.symm.trans h5) (nI_eqf (b := 3) (by omega) (by omega) (by omega))
  · intro op ng T b T1 ps hdv ih hT ho hg
    obtain ⟨-, ih2, -⟩ := ih hT ho hg
    refine ⟨fun _ d M C Q hd hM hC hQ => ?_, fun z => absurd z (by omega), fun l z y => absurd z (by omega)⟩
    unfold DPc at hd
    obtain ⟨e, rfl⟩ : ∃ e, d = e + 1 := ⟨d - 1, by omega⟩
    refine td_X4_readsLevel ?_
    intro S hS
    iterate 3 refine hS _ _ _ _ ?_
    refine And.intro (fun h2 => ?_) (fun h2 => ?_)
    · exact absurd h2 (by decide)
    · iterate 4 refine hS _ _ _ _ ?_
      refine ih2 rfl e M C _ (by unfold DPc; omega) hM hC (fun M1 c1 => ?_)
      refine hS _ _ _ _ ?_
      refine ⟨narrow_bI _, ?_⟩
      exact hQ M1 c1
  · intro l op ng T T1 ps b T2 qs hl hdv hdv2 ih ih2 hT ho hg
    obtain ⟨ihA, -, -⟩ := ih hT ho hg
    obtain ⟨o1, o2, o3⟩ := dv_pf hk hdv hT
    obtain ⟨o4, -, -⟩ := o3 rfl
    obtain ⟨-, -, ihB⟩ := ih2 o1 ho hg
    refine ⟨fun _ d M C Q hd hM hC hQ => ?_, fun z => absurd z (by omega), fun l' z y => absurd z (by omega)⟩
    unfold DPc at hd
    rw [← List.append_assoc] at hQ
    obtain ⟨e, rfl⟩ : ∃ e, d = e + 1 := ⟨d - 1, by omega⟩
    refine td_X4_readsLevel ?_
    intro S hS
    have fin : ∀ M1 m, CSt M0 n f ky x M1 T1 (C ++ ps) → m = (if l = 2 then (1 : Int32) else 96) → S 42 [some (.inr (11, 0, 0)), some (.inl (nI l)), some (.inl (nI op)), some (.inl (nI ng)), some (.inl m), some (.inl (nI 0)), none] [] M1 := by
      intro M1 m c1 hm
      subst hm
      exact ihB l rfl hl e S M1 (C ++ ps) Q 0 none hS (by unfold DPc; omega) c1 (by rw [List.length_append]; omega) (Nat.zero_le _) (fun _ => rfl) hQ
    iterate 3 refine hS _ _ _ _ ?_
    refine And.intro (fun h2 => ?_) (fun h2 => ?_)
    · iterate 7 refine hS _ _ _ _ ?_
      rw [← nI_succ]
      refine ihA (by omega) e M C _ (by unfold DPc; omega) hM hC (fun M1 c1 => ?_)
      refine hS _ _ _ _ ?_
      refine And.intro (fun h21 => ?_) (fun h21 => ?_)
      · replace h21 := bI_t h21
        iterate 3 refine hS _ _ _ _ ?_
        refine And.intro (fun h28 => ?_) (fun h28 => ?_)
        · have hm : ¬ l = 2 := fun z => h28 (by rw [z]; rfl)
          iterate 4 refine hS _ _ _ _ ?_
          exact fin M1 96 (c1.2.2 rfl) (if_neg hm).symm
        · have hm : l = 2 := (nI_eq (b := 2) (by omega) (by decide)).mp h28
          iterate 5 refine hS _ _ _ _ ?_
          exact fin M1 1 (c1.2.2 rfl) (if_pos hm).symm
      · replace h21 := bI_f h21
        exact absurd rfl h21
    · exact absurd (show nI l < 5 from nI_lt (b := 5) hl (by decide)) h2
  · intro l op ng T T1 ps hl hdv ih hT ho hg
    obtain ⟨ihA, -, -⟩ := ih hT ho hg
    refine ⟨fun _ d M C Q hd hM hC hQ => ?_, fun z => absurd z (by omega), fun l' z y => absurd z (by omega)⟩
    unfold DPc at hd
    obtain ⟨e, rfl⟩ : ∃ e, d = e + 1 := ⟨d - 1, by omega⟩
    refine td_X4_readsLevel ?_
    intro S hS
    iterate 3 refine hS _ _ _ _ ?_
    refine And.intro (fun h2 => ?_) (fun h2 => ?_)
    · iterate 7 refine hS _ _ _ _ ?_
      rw [← nI_succ]
      refine ihA (by omega) e M C _ (by unfold DPc; omega) hM hC (fun M1 c1 => ?_)
      refine hS _ _ _ _ ?_
      refine And.intro (fun h21 => ?_) (fun h21 => ?_)
      · replace h21 := bI_t h21
        exact absurd h21 (by decide)
      · replace h21 := bI_f h21
        iterate 2 refine hS _ _ _ _ ?_
        refine ⟨rfl, ?_⟩
        exact qv (hQ M1 c1) (bI_n (by decide))
    · exact absurd (show nI l < 5 from nI_lt (b := 5) hl (by decide)) h2
  · intro l op ng T hl hno hT ho hg
    refine ⟨fun z => absurd z (by omega), fun z => absurd z (by omega), fun l' hl1 hl2 d S M C Q i o6 hS hd hM hC hi h2 hQ => ?_⟩
    obtain rfl : l' = l := by omega
    unfold DPc at hd
    rw [List.append_nil] at hQ
    iterate 3 refine hS _ _ _ _ ?_
    refine And.intro (fun h46 => ?_) (fun h46 => ?_)
    · iterate 2 refine hS _ _ _ _ ?_
      refine ⟨rfl, ?_⟩
      exact qv (hQ M hM.ps) (bI_p rfl)
    · iterate 3 refine hS _ _ _ _ ?_
      refine sp_isJoined (n := n) (f := f) (T := T) (by omega) hn hl hb hM.1 hT.1 ?_
      refine hS _ _ _ _ ?_
      refine And.intro (fun h54 => ?_) (fun h54 => ?_)
      · replace h54 := bI_f h54
        iterate 2 refine hS _ _ _ _ ?_
        refine ⟨rfl, ?_⟩
        exact qv (hQ M hM.ps) (bI_p rfl)
      · replace h54 := bI_t h54
        exact absurd ((jn hl).mp h54) (fun ⟨k, a, b⟩ => hno k a b)
  · intro l op ng T k b T1 ps hl hs hr hlb hdv ih hT ho hg
    have hlt := hT.lt (by rw [hs.1]; decide)
    have hnt := hT.nt
    obtain ⟨ihA, -, -⟩ := ih hnt.1 ho hg
    obtain ⟨o1, o2, o3⟩ := dv_pf hk hdv hnt.1
    refine ⟨fun z => absurd z (by omega), fun z => absurd z (by omega), fun l' hl1 hl2 d S M C Q i o6 hS hd hM hC hi h2 hQ => ?_⟩
    obtain rfl : l' = l := by omega
    unfold DPc at hd
    have e2 : M 11 0 0 2 = nI T.1 := hM.1.2.2.1
    have eb : M 12 0 0 T.1 = sgB k := by rw [hM.1.2.1 T.1 (by omega), ← hT.1.2.2.2.2.1 (Or.inl hs.1)]; exact hs.2.2.2
    have hv : isBd 256 (sgB k) := by rw [← hs.2.2.2, hT.1.2.2.2.2.1 (Or.inl hs.1)]; exact hb _ (by omega)
    have fin : l' = 2 → b = true → ∀ M1 o6, CSt M0 n f ky x M1 T1 (C ++ (ps ++ [- nI k])) → S 42 [some (.inr (11, 0, 0)), some (.inl (nI l')), some (.inl (nI op)), some (.inl (nI ng)), some (.inl (if l' = 2 then 1 else 96)), some (.inl (nI i + 1)), o6] [] M1 := by
      intro z zb M1 o6 c1
      rw [if_pos z, h2 z]
      iterate 3 refine hS _ _ _ _ ?_
      refine And.intro (fun h46 => ?_) (fun h46 => ?_)
      · iterate 2 refine hS _ _ _ _ ?_
        refine ⟨rfl, ?_⟩
        exact qv (hQ M1 c1.ps) (bI_p zb)
      · exact absurd (show (1 : Int32) ≤ nI 0 + 1 by decide) h46
    iterate 3 refine hS _ _ _ _ ?_
    refine And.intro (fun h46 => ?_) (fun h46 => ?_)
    · skip
      by_cases z : l' = 2
      · rw [if_pos z, h2 z] at h46; exact absurd h46 (by decide)
      · rw [if_neg z] at h46; exact absurd (show nI 96 ≤ nI i from h46) (nI_ge (by omega) (by omega))
    · iterate 3 refine hS _ _ _ _ ?_
      refine sp_isJoined (n := n) (f := f) (T := T) (by omega) hn hl hb hM.1 hT.1 ?_
      refine hS _ _ _ _ ?_
      refine And.intro (fun h54 => ?_) (fun h54 => ?_)
      · replace h54 := bI_f h54
        exact absurd ((jn hl).mpr ⟨k, hs, hr⟩) h54
      · replace h54 := bI_t h54
        iterate 5 refine hS _ _ _ _ ?_
        rw [show gfv M 11 0 0 2 = .inl (nI T.1) from congrArg Sum.inl e2]
        refine ⟨(by first | assumption | exact vp_in_nI (by simp only [alen]; omega) (by decide)), ?_⟩
        try rw [nI_clamp (by omega)]
        iterate 4 refine hS _ _ _ _ ?_
        rw [eb, i2c_bd hv]
        refine sp_goOn (n := n) (f := f) (T := T) (by omega) hn hT.1.2.1 hT.1.2.2.1 hM.1 (fun M1 g1 g2 => ?_)
        iterate 7 refine hS _ _ _ _ ?_
        rw [← nI_succ]
        refine ihA (by omega) d M1 C _ (by unfold DPc; omega) (hM.go g1 g2) (by omega) (fun M2 c2 => ?_)
        refine hS _ _ _ _ ?_
        refine And.intro (fun h82 => ?_) (fun h82 => ?_)
        · replace h82 := bI_t h82
          have s2 := c2.2.2 h82
          obtain ⟨hl3, -⟩ := o3 h82
          have hl4 := o1.1.1
          have hl5 := o1.1.2.1
          have hdr : (M2 11 0 0 6).toNatClampNeg < 16 := by rw [s2.2.1, nI_clamp (by omega)]; exact hx
          have hdx : (M2 11 0 0 6).toNatClampNeg = x := by rw [s2.2.1, nI_clamp (by omega)]
          iterate 2 refine hS _ _ _ _ ?_
          refine ⟨by assumption, ?_⟩
          iterate 2 refine hS _ _ _ _ ?_
          rw [gfv_dr hdx]
          refine sp_addSign (by omega) (by rw [List.length_append]; omega) s2.2.2.2.1 ?_
          have s3 := s2.sign (c := - nI k) (lvN_neg hs.2.1 (by have := hs.2.2.1; omega)) (phi_B k hs.2.2.1 hs.2.1).symm
          rw [List.append_assoc] at s3
          have zl : l' = 2 := hlb.resolve_right (by rw [h82]; decide)
          iterate 2 refine hS _ _ _ _ ?_
          exact fin zl h82 _ _ s3
        · replace h82 := bI_f h82
          iterate 2 refine hS _ _ _ _ ?_
          refine ⟨rfl, ?_⟩
          exact qv (hQ M2 ⟨c2.1, c2.2.1, fun z => absurd z h82⟩) (bI_n h82)
  · intro l op ng T k T1 ps b T2 qs hl hl2 hs hr hdv hdv2 ih ih2 hT ho hg
    have hlt := hT.lt (by rw [hs.1]; decide)
    have hnt := hT.nt
    obtain ⟨ihA, -, -⟩ := ih hnt.1 ho hg
    obtain ⟨o1, o2, o3⟩ := dv_pf hk hdv hnt.1
    obtain ⟨hl3, -⟩ := o3 rfl
    have hl4 := o1.1.1
    have hl5 := o1.1.2.1
    obtain ⟨-, -, ihB⟩ := ih2 o1 ho hg
    refine ⟨fun z => absurd z (by omega), fun z => absurd z (by omega), fun l' hl1 hl2' d S M C Q i o6 hS hd hM hC hi h2 hQ => ?_⟩
    obtain rfl : l' = l := by omega
    have e2 : M 11 0 0 2 = nI T.1 := hM.1.2.2.1
    have eb : M 12 0 0 T.1 = sgB k := by rw [hM.1.2.1 T.1 (by omega), ← hT.1.2.2.2.2.1 (Or.inl hs.1)]; exact hs.2.2.2
    have hv : isBd 256 (sgB k) := by rw [← hs.2.2.2, hT.1.2.2.2.2.1 (Or.inl hs.1)]; exact hb _ (by omega)
    have fin : ∀ M1 o6, CSt M0 n f ky x M1 T1 (C ++ (ps ++ [- nI k])) → S 42 [some (.inr (11, 0, 0)), some (.inl (nI l')), some (.inl (nI op)), some (.inl (nI ng)), some (.inl (if l' = 2 then 1 else 96)), some (.inl (nI i + 1)), o6] [] M1 := by
      intro M1 o6 c1
      rw [← nI_succ]
      refine ihB l' rfl hl d S M1 (C ++ (ps ++ [- nI k])) Q (i + 1) o6 hS hd c1 (by rw [List.length_append, List.length_append, List.length_singleton]; omega) (by omega) (fun z => absurd z hl2) (fun M2 c2 => hQ M2 ?_)
      rw [List.append_assoc] at c2
      exact c2
    unfold DPc at hd
    rw [if_neg hl2] at fin ⊢
    iterate 3 refine hS _ _ _ _ ?_
    refine And.intro (fun h46 => ?_) (fun h46 => ?_)
    · exact absurd (show nI 96 ≤ nI i from h46) (nI_ge (by omega) (by omega))
    · iterate 3 refine hS _ _ _ _ ?_
      refine sp_isJoined (n := n) (f := f) (T := T) (by omega) hn hl hb hM.1 hT.1 ?_
      refine hS _ _ _ _ ?_
      refine And.intro (fun h54 => ?_) (fun h54 => ?_)
      · replace h54 := bI_f h54
        exact absurd ((jn hl).mpr ⟨k, hs, hr⟩) h54
      · replace h54 := bI_t h54
        iterate 5 refine hS _ _ _ _ ?_
        rw [show gfv M 11 0 0 2 = .inl (nI T.1) from congrArg Sum.inl e2]
        refine ⟨(by first | assumption | exact vp_in_nI (by simp only [alen]; omega) (by decide)), ?_⟩
        try rw [nI_clamp (by omega)]
        iterate 4 refine hS _ _ _ _ ?_
        rw [eb, i2c_bd hv]
        refine sp_goOn (n := n) (f := f) (T := T) (by omega) hn hT.1.2.1 hT.1.2.2.1 hM.1 (fun M1 g1 g2 => ?_)
        iterate 7 refine hS _ _ _ _ ?_
        rw [← nI_succ]
        refine ihA (by omega) d M1 C _ (by unfold DPc; omega) (hM.go g1 g2) (by omega) (fun M2 c2 => ?_)
        refine hS _ _ _ _ ?_
        refine And.intro (fun h82 => ?_) (fun h82 => ?_)
        · replace h82 := bI_t h82
          have s2 := c2.2.2 rfl
          have hdr : (M2 11 0 0 6).toNatClampNeg < 16 := by rw [s2.2.1, nI_clamp (by omega)]; exact hx
          have hdx : (M2 11 0 0 6).toNatClampNeg = x := by rw [s2.2.1, nI_clamp (by omega)]
          iterate 2 refine hS _ _ _ _ ?_
          refine ⟨by assumption, ?_⟩
          iterate 2 refine hS _ _ _ _ ?_
          rw [gfv_dr hdx]
          refine sp_addSign (by omega) (by rw [List.length_append]; omega) s2.2.2.2.1 ?_
          have s3 := s2.sign (c := - nI k) (lvN_neg hs.2.1 (by have := hs.2.2.1; omega)) (phi_B k hs.2.2.1 hs.2.1).symm
          rw [List.append_assoc] at s3
          iterate 2 refine hS _ _ _ _ ?_
          exact fin _ _ s3
        · replace h82 := bI_f h82
          exact absurd rfl h82
end W48
