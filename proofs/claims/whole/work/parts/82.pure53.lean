-- 82.pure53: a text from its first word to its end
def kst (w : Nat) : Nat := [0, 5, 8].getD w 0
theorem kyL_ok : ∀ w, w < 3 → keyA.getD w 0 = nI (kst w) ∧ keyA.getD (w + 1) 0 - keyA.getD w 0 = nI (sLen w) ∧ kst w + sLen w ≤ 12 ∧ ∀ k, k < sLen w → keyL.getD (kst w + k) 0 = sB w k := by decide +kernel
noncomputable def T0F (f : FA) (n : Nat) : TK := tk f n 0 False
/-- no text: its fault is at p -/
def TxF (f : FA) (n p : Nat) : Prop := (kyF f (T0F f n) < 0 ∧ p = (T0F f n).1) ∨ ∃ ky b T1 ps, ky < 3 ∧ kyF f (T0F f n) = nI ky ∧ Dv f n ky 0 0 0 (nt f n (T0F f n)) b T1 ps ∧ ¬ (b = true ∧ T1.2.2.1 = 0) ∧ p = T1.1
/-- a text of the key ky, of the codes ps -/
def TxG (f : FA) (n ky : Nat) (ps : List Int32) : Prop := ky < 3 ∧ kyF f (T0F f n) = nI ky ∧ ∃ T1, Dv f n ky 0 0 0 (nt f n (T0F f n)) true T1 ps ∧ T1.2.2.1 = 0
theorem kyF_or {f : FA} {T : TK} : kyF f T < 0 ∨ ∃ ky, ky < 3 ∧ kyF f T = nI ky ∧ wdP f T ky := by
  unfold kyF
  by_cases h0 : wdP f T 0
  · rw [iteC_t h0]; exact Or.inr ⟨0, by decide, rfl, h0⟩
  · rw [iteC_f h0]
    by_cases h1 : wdP f T 1
    · rw [iteC_t h1]; exact Or.inr ⟨1, by decide, rfl, h1⟩
    · rw [iteC_f h1]
      by_cases h2 : wdP f T 2
      · rw [iteC_t h2]; exact Or.inr ⟨2, by decide, rfl, h2⟩
      · rw [iteC_f h2]; exact Or.inl (by decide)
theorem T0_to {f : FA} {n : Nat} : TO n f (T0F f n) := (tk_to (Nat.zero_le n)).1
theorem TxG.ok {f : FA} {n ky : Nat} {ps : List Int32} (h : TxG f n ky ps) (hn : n ≤ 96) : ps.length ≤ 96 ∧ okR (if ky = 0 then 3 else 2) ps 0 1 := by
  obtain ⟨h1, h2, T1, h3, h4⟩ := h
  obtain ⟨o1, o2, o3⟩ := dv_pf h1 h3 T0_to.nt.1
  obtain ⟨p1, p2, -⟩ := o3 rfl
  have := o1.1.1
  have := o1.1.2.1
  exact ⟨by omega, p2 (by omega) 0⟩
theorem nI_all (x : Int32) : ∃ k, x = nI k := ⟨x.toBitVec.toNat, by
  show x = Int32.ofNat x.toBitVec.toNat
  apply Int32.toBitVec_inj.mp
  simp⟩
theorem FX.f11 {M0 M M1 : Mem} {x : Nat} (h : FX M0 x M) (g : F11 M M1) : FX M0 x M1 := ⟨fun k a b c => (g.1 k c).trans (h.1 k a b c), fun i hi => ⟨by rw [g.1 9 (by decide)]; exact (h.2.1 i hi).1, by rw [g.1 10 (by decide)]; exact (h.2.1 i hi).2⟩, fun j a b c e => (g.2 j a b c e).trans (h.2.2 j a b c e)⟩
section W53
variable {d n ky x : Nat} {M : Mem} {Q : PQ} {f : FA} {T : TK}
theorem sp_readsText (hd : 300 ≤ d) (hn : n ≤ 96) (hx : x < 16) (hb : ∀ i, i < n → isBd 256 (f i)) (e1 : M 11 0 0 1 = nI n) (hf : ∀ i, i < n → M 12 0 0 i = f i)
    (k0 : ∀ p, TxF f n p → ∀ M1, FX (mu M 11 0 0 6 (nI x)) x M1 → M1 11 0 0 2 = nI p → Q (some (.inl 0)) M1)
    (k1 : ∀ ky ps, TxG f n ky ps → ∀ M1, FX (mu M 11 0 0 6 (nI x)) x M1 → M1 9 x 0 0 = nI ky → M1 9 x 0 2 = nI ps.length → M1 9 x 0 3 = nI (lvN ps) → (∀ k, k < ps.length → M1 10 x 0 k = phi (ps.getD k 0)) → Q (some (.inl 1)) M1) : Td PR d 32 [.inr (11, 0, 0), .inr (9, x, 0)] M Q := by
  obtain ⟨s0, es⟩ := nI_all (M 11 0 0 2)
  have c0 : CT (mu (mu (mu M 11 0 0 6 (nI x)) 11 0 0 3 0) 11 0 0 4 0) n f (s0, 0, 0, 0) := ⟨by rw [mz_sl (by decide), mz_sl (by decide), mz_sl (by decide)]; exact e1, fun i hi => by rw [mz_k (by decide), mz_k (by decide), mz_k (by decide)]; exact hf i hi, by rw [mz_sl (by decide), mz_sl (by decide), mz_sl (by decide)]; exact es, by rw [mz_sl (by decide), mz_at]; rfl, by rw [mz_at]; rfl, fun z => absurd z (show ¬ (0 : Nat) = 3 by decide)⟩
  have et : nt f n (s0, 0, 0, 0) = T0F f n := by
    have q : ((0 : Nat) = 2 ∨ (0 : Nat) = 3) = False := propext ⟨fun z => by omega, False.elim⟩
    show tk f n 0 ((0 : Nat) = 2 ∨ (0 : Nat) = 3) = tk f n 0 False
    rw [q]
  have x0 : FX (mu M 11 0 0 6 (nI x)) x (mu (mu (mu M 11 0 0 6 (nI x)) 11 0 0 3 0) 11 0 0 4 0) := ⟨fun k a b c => by rw [mz_k c, mz_k c], fun i hi => ⟨by rw [mz_k (by decide), mz_k (by decide)], by rw [mz_k (by decide), mz_k (by decide)]⟩, fun j a b c e => by rw [mz_sl c, mz_sl b]⟩
  have m6 : mu M 11 0 0 6 (nI x) 11 0 0 6 = nI x := mz_at
  obtain ⟨e, rfl⟩ : ∃ e, d = e + 1 := ⟨d - 1, by omega⟩
  refine td_X4_readsText ?_
  intro S hS
  iterate 11 refine hS _ _ _ _ ?_
  refine sp_goOn (n := n) (f := f) (T := (s0, 0, 0, 0)) (by omega) hn (Nat.zero_le _) (Nat.zero_le _) c0 (fun M1 g1 g2 => ?_)
  rw [et] at g2
  have x1 := x0.f11 g1
  iterate 2 refine hS _ _ _ _ ?_
  refine sp_keyHere (n := n) (f := f) (T := T0F f n) (by omega) hn g2 T0_to.1 ?_
  iterate 3 refine hS _ _ _ _ ?_
  refine And.intro (fun h25 => ?_) (fun h25 => ?_)
  · obtain ⟨ky, hk, ek, hw⟩ := (kyF_or (f := f) (T := T0F f n)).resolve_left (Int32.not_lt.mpr h25)
    obtain ⟨b, T1, ps, dv⟩ := dv_all hk (n + 1) 0 0 0 (nt f n (T0F f n)) (by omega) T0_to.nt.1 (by omega)
    have e6 : M1 11 0 0 6 = nI x := (x1.2.2 6 (by decide) (by decide) (by decide) (by decide)).trans m6
    have hdr : (M1 11 0 0 6).toNatClampNeg < 16 := by rw [e6, nI_clamp (by omega)]; exact hx
    have hdx : (M1 11 0 0 6).toNatClampNeg = x := by rw [e6, nI_clamp (by omega)]
    iterate 2 refine hS _ _ _ _ ?_
    refine ⟨by assumption, ?_⟩
    iterate 2 refine hS _ _ _ _ ?_
    rw [gfv_dr hdx, ek]
    refine sp_begin (by omega) ?_
    have s2 : CSt (mu M 11 0 0 6 (nI x)) n f ky x (mu (mu (mu M1 9 x 0 0 (nI ky)) 9 x 0 2 0) 9 x 0 3 0) (T0F f n) [] := by
      refine ⟨g2.cg (by rw [mz_k (by decide), mz_k (by decide), mz_k (by decide)]) (by rw [mz_k (by decide), mz_k (by decide), mz_k (by decide)]), ?_, ?_, ?_, mz_at, fun k hk => absurd hk (Nat.not_lt_zero _), ?_, ?_, ?_⟩
      · rw [mz_k (by decide), mz_k (by decide), mz_k (by decide)]; exact e6
      · rw [mz_sl (by decide), mz_sl (by decide), mz_at]
      · rw [mz_sl (by decide), mz_at]; rfl
      · intro k a b c; rw [mz_k a, mz_k a, mz_k a]; exact x1.1 k a b c
      · intro i hi
        constructor
        · rw [← (x1.2.1 i hi).1]; funext r; rw [mz_ne (by omega), mz_ne (by omega), mz_ne (by omega)]
        · rw [← (x1.2.1 i hi).2, mz_k (by decide), mz_k (by decide), mz_k (by decide)]
      · intro j a b c e; rw [mz_k (by decide), mz_k (by decide), mz_k (by decide)]; exact x1.2.2 j a b c e
    iterate 2 refine hS _ _ _ _ ?_
    refine sp_goOn (n := n) (f := f) (T := T0F f n) (by omega) hn T0_to.1.2.1 T0_to.1.2.2.1 s2.1 (fun M3 g3 g4 => ?_)
    have s3 := s2.go g3 g4
    iterate 5 refine hS _ _ _ _ ?_
    refine ((dv_c hn hx hk hb dv) T0_to.nt.1 (by omega) (by omega)).1 (by omega) _ M3 [] _ (by unfold DPc; omega) s3 (Nat.zero_le _) (fun M4 c4 => ?_)
    have e4 : M4 11 0 0 4 = nI T1.2.2.1 := c4.2.1.2.2.2.2.1
    have o1 := (dv_pf hk dv T0_to.nt.1).1.1.2.2.1
    refine hS _ _ _ _ ?_
    refine And.intro (fun h49 => ?_) (fun h49 => ?_)
    · replace h49 := bI_f h49
      iterate 2 refine hS _ _ _ _ ?_
      refine ⟨rfl, ?_⟩
      exact k0 _ (Or.inr ⟨ky, b, T1, ps, hk, ek, dv, fun z => h49 z.1, rfl⟩) M4 c4.1 c4.2.1.2.2.1
    · replace h49 := bI_t h49
      iterate 3 refine hS _ _ _ _ ?_
      refine And.intro (fun h56 => ?_) (fun h56 => ?_)
      · rw [e4] at h56
        iterate 2 refine hS _ _ _ _ ?_
        refine ⟨rfl, ?_⟩
        exact k0 _ (Or.inr ⟨ky, b, T1, ps, hk, ek, dv, fun z => h56 (congrArg nI z.2), rfl⟩) M4 c4.1 c4.2.1.2.2.1
      · rw [e4] at h56
        have hz := (nI_eq (b := 0) (by omega) (by decide)).mp h56
        subst h49
        obtain ⟨-, -, f1, f2, f3, f4, -⟩ := c4.2.2 rfl
        iterate 3 refine hS _ _ _ _ ?_
        refine ⟨rfl, ?_⟩
        exact k1 ky ps ⟨hk, ek, T1, dv, hz⟩ M4 c4.1 f1 f2 f3 f4
  · iterate 2 refine hS _ _ _ _ ?_
    refine ⟨rfl, ?_⟩
    exact k0 _ (Or.inl ⟨Int32.not_le.mp h25, rfl⟩) M1 x1 g2.2.2.1
theorem sm_takesE {b : Bool} {T1 : TK} {ps : List Int32} (hd : 9 ≤ d) (hn : n ≤ 96) (hk : ky < 3) (ek : M 30 0 0 16 = nI ky) (hT : TO n f T) (hR : RT M n f T) (hG : T.2.2.1 ≠ 0 → T.2.2.1 ≠ 4 → RGo M T) (dv : Dv f n ky 0 0 0 T b T1 ps)
    (k1 : b = true → T1.2.2.1 = 0 → ∀ M1, FY M M1 → RT M1 n f T1 → M1 30 0 0 20 = nI ps.length → (∀ k, k < ps.length → M1 50 0 0 k = ps.getD k 0) → M1 30 0 0 21 = nI (lvN ps) → Q (some (.inl 1)) M1)
    (k0 : ¬ (b = true ∧ T1.2.2.1 = 0) → ∀ M1, FY M M1 → RT M1 n f T1 → Q (some (.inl 0)) M1) : Td PR d 193 [.inr (30, 0, 0)] M Q := by
  have o1 := (dv_pf hk dv hT).1
  obtain ⟨e, rfl⟩ : ∃ e, d = e + 1 := ⟨d - 1, by omega⟩
  refine td_X10_takesE ?_
  intro S hS
  have lp : RLo S M n f 1 T [] [] 0 (fun _ => false) := by
    refine ((dv_r hS (by omega) hn hk ek dv) hT (by omega)).1 (by omega) [] [] (fun _ => false) (fun w W' z => absurd z (by simp)) rfl (fun _ => rfl) (fun hb V C' te' v1 v2 v3 v4 => ?_) (fun hb M1 a1 a2 => k0 (fun z => absurd (hb.symm.trans z.1) (by decide)) M1 a1 a2)
    have hs : seF 0 (V ++ []) C' = ([], ps) := by
      rw [seF_app V [] C' (fun v hv => ⟨by have := v1 v hv; omega, Nat.zero_le _⟩), v2]
      rfl
    by_cases hz : T1.2.2.1 = 0
    · refine rl_end hS (by omega) hn (by omega) o1 hz (fun _ M1 a1 a2 a3 a4 a5 => ?_) (fun z => absurd rfl z)
      have hlv : lvN ps = lvN C' := by
        have q := seF_lv (r := 0) (V ++ []) C' (fun w hw => by
          rw [List.append_nil] at hw
          have := v1 w hw
          omega)
        rw [hs] at q
        exact q
      rw [hs] at a3
      exact k1 hb hz M1 a1 a2 a3.2.2.2.1 a3.2.2.2.2 (by rw [hlv]; exact a4)
    · refine rl_stop hS (by omega) (by omega) o1 hz (fun z => absurd z.2.2 (by omega)) (fun k hk => ?_) (fun M1 a1 a2 => k0 (fun z => hz z.2) M1 a1 a2)
      rcases v4 k hk with z | z
      · have := (rkN_1 k hk.2.2.1).1; omega
      · exact z
  have gT : GT M (mu (mu (mu (mu M 30 0 0 20 0) 30 0 0 21 0) 30 0 0 23 0) 55 0 0 0 0) := GT.a (GT.b (GT.b (GT.b GT.rf (by omega)) (by omega)) (by omega)) (by omega)
  have st : RSt M n f (mu (mu (mu (mu M 30 0 0 20 0) 30 0 0 21 0) 30 0 0 23 0) 55 0 0 0 0) T [] [] 0 (fun _ => false) := by
    refine ⟨gT.rt hR, fun a b => gT.go (hG a b), ⟨?_, fun i hi => absurd hi (Nat.not_lt_zero _), fun w hw => absurd hw (List.not_mem_nil), ?_, fun k hk => absurd hk (Nat.not_lt_zero _)⟩, ?_, fun i hi => ?_, Nat.zero_le _, gT.fy ⟨fun _ _ _ _ _ => rfl, fun _ _ => rfl⟩⟩
    · rw [mz_k (by decide), mz_at]; rfl
    · rw [mz_k (by decide), mz_sl (by decide), mz_sl (by decide), mz_at]; rfl
    · rw [mz_k (by decide), mz_sl (by decide), mz_at]; rfl
    · obtain rfl : i = 0 := by omega
      rw [mz_at]; rfl
  iterate 20 refine hS _ _ _ _ ?_
  refine ⟨vp_l rfl, by decide, ?_⟩
  try rw [show Int32.toNatClampNeg 0 = 0 from rfl]
  exact lp _ none st
theorem sm_takesKey (hd : 6 ≤ d) (hn : n ≤ 96) (hT : TO n f T) (hR : RT M n f T) (hG : T.2.2.1 ≠ 0 → T.2.2.1 ≠ 4 → RGo M T) (hK : IKey M)
    (k1 : ∀ ky, ky < 3 → kyF f T = nI ky → ∀ M1, (∀ k, k ≠ 30 → M1 k = M k) → (∀ j, j < 11 ∨ 16 < j → M1 30 0 0 j = M 30 0 0 j) → M1 30 0 0 16 = nI ky → RT M1 n f (nt f n T) → ((nt f n T).2.2.1 ≠ 0 → (nt f n T).2.2.1 ≠ 4 → RGo M1 (nt f n T)) → Q (some (.inl 1)) M1)
    (k0 : kyF f T < 0 → Q (some (.inl 0)) M) : Td PR d 187 [.inr (30, 0, 0)] M Q := by
  obtain ⟨e10, hf, e12, e11, e13, e14⟩ := hR
  obtain ⟨-, r1, -, -⟩ := rkT_n _ hT.1.2.2.1
  have hle := hT.1.1
  have hle2 := hT.1.2.1
  have es : M 30 0 0 11 - M 30 0 0 12 = nI (T.2.1 - T.1) := by rw [e11, e12]; exact nI_sub hT.1.1
  have nowd : ¬ wdP f T 0 → ¬ wdP f T 1 → ¬ wdP f T 2 → kyF f T < 0 := by
    intro a b c
    unfold kyF
    rw [iteC_f a, iteC_f b, iteC_f c]
    decide
  obtain ⟨e, rfl⟩ : ∃ e, d = e + 1 := ⟨d - 1, by omega⟩
  refine td_X10_takesKey ?_
  intro S hS
  have hit : ∀ w o2 o3 o4, w < 3 → T.2.2.1 = 2 → kyF f T = nI w → S 110 [some (.inr (30, 0, 0)), some (.inl (nI w)), o2, o3, o4] [] M := by
    intro w o2 o3 o4 hw h2 ek
    have hg := hG (by omega) (by omega)
    iterate 5 refine hS _ _ _ _ ?_
    refine sm_go (n := n) (f := f) (p := T.2.1) (W := T.2.2.1 = 2 ∨ T.2.2.1 = 3) (by omega) hn hT.1.2.1 (by rw [mz_sl (by decide)]; exact e10) (fun i hi => by rw [mz_k (by decide)]; exact hf i hi) (by rw [mz_sl (by decide)]; exact e11) (by rw [mz_sl (by decide)]; exact hg) (fun M1 g1 g2 g3 => ?_)
    iterate 2 refine hS _ _ _ _ ?_
    refine ⟨rfl, ?_⟩
    exact k1 w hw ek M1 (fun k a => (g1.1 k a).trans (mz_k a)) (fun j a => (g1.2 j (by omega)).trans (mz_sl (by omega))) ((g1.2 16 (by omega)).trans mz_at) g2 g3
  have out : kyF f T < 0 → ∀ o2 o3 o4, S 12 [some (.inr (30, 0, 0)), some (.inl (nI 2 + 1)), o2, o3, o4] [] M := by
    intro hlt o2 o3 o4
    iterate 3 refine hS _ _ _ _ ?_
    refine And.intro (fun h14 => ?_) (fun h14 => ?_)
    · iterate 2 refine hS _ _ _ _ ?_
      refine ⟨rfl, ?_⟩
      exact k0 hlt
    · exact absurd (by decide) h14
  have one : T.2.2.1 = 2 → ∀ w, w < 3 → (wdP f T w → kyF f T = nI w) → (¬ wdP f T w → ∀ o2 o3 o4, S 12 [some (.inr (30, 0, 0)), some (.inl (nI w + 1)), o2, o3, o4] [] M) → ∀ o2 o3 o4, S 12 [some (.inr (30, 0, 0)), some (.inl (nI w)), o2, o3, o4] [] M := by
    intro h2 w hw ek nx o2 o3 o4
    obtain ⟨y1, y2, y3, y4⟩ := kyL_ok w hw
    have hl := sLen_lt w (by omega)
    have hd1 : M 49 0 0 (w + 1) - M 49 0 0 w = nI (sLen w) := by rw [hK.2 (w + 1) (by omega), hK.2 w (by omega)]; exact y2
    have post : ∀ b o2 o4, b = bI (wdP f T w) → S 106 [some (.inr (30, 0, 0)), some (.inl (nI w)), o2, some (.inl b), o4] [] M := by
      intro b o2 o4 hb
      iterate 2 refine hS _ _ _ _ ?_
      refine And.intro (fun h107 => ?_) (fun h107 => ?_)
      · rw [hb] at h107
        have hw0 := bI_f h107
        iterate 2 refine hS _ _ _ _ ?_
        exact nx hw0 _ _ _
      · rw [hb] at h107
        have hw0 := bI_t h107
        exact hit w _ _ _ hw h2 (ek hw0)
    have lp : ∀ b, b = bI (T.2.1 - T.1 = sLen w ∧ ∀ q, q < 0 → f (T.1 + q) = sB w q) → S 55 [some (.inr (30, 0, 0)), some (.inl (nI w)), some (.inl (nI (sLen w))), some (.inl b), some (.inl (nI 0))] [] M := by
      refine lp_up (T := fun k => ∀ b, b = bI (T.2.1 - T.1 = sLen w ∧ ∀ q, q < k → f (T.1 + q) = sB w q) → S 55 [some (.inr (30, 0, 0)), some (.inl (nI w)), some (.inl (nI (sLen w))), some (.inl b), some (.inl (nI k))] [] M) (N := sLen w) ?_ ?_ 0 (Nat.zero_le _)
      · intro b hb
        iterate 3 refine hS _ _ _ _ ?_
        refine And.intro (fun h58 => ?_) (fun h58 => ?_)
        · exact post b _ _ (hb.trans (bI_cg ⟨fun z => ⟨h2, z⟩, fun z => z.2⟩))
        · exact (lp_x rfl h58).elim
      · intro k hk ih b hb
        rw [nI_succ] at ih
        have ex : M 30 0 0 12 + nI k = nI (T.1 + k) := by rw [e12]; exact nI_add _ _
        have ey : M 49 0 0 w + nI k = nI (kst w + k) := by rw [hK.2 w (by omega), y1]; exact nI_add _ _
        have ez : M 48 0 0 (kst w + k) = sB w k := by rw [hK.1 _ (by omega)]; exact y4 k hk
        iterate 3 refine hS _ _ _ _ ?_
        refine And.intro (fun h58 => ?_) (fun h58 => ?_)
        · exact (lp_s rfl hk (by omega) h58).elim
        · iterate 2 refine hS _ _ _ _ ?_
          refine And.intro (fun h62 => ?_) (fun h62 => ?_)
          · rw [hb] at h62
            have hn0 := bI_f h62
            exact post b _ _ (by rw [hb, bI_n hn0, bI_n (fun z => hn0 ⟨z.2.1, fun q hq => z.2.2 q (by omega)⟩)])
          · rw [hb] at h62
            have hy := bI_t h62
            have ew : M 40 0 0 (T.1 + k) = f (T.1 + k) := hf _ (by omega)
            iterate 7 refine hS _ _ _ _ ?_
            rw [ex]
            refine ⟨(by first | assumption | exact vp_in_nI (by simp only [alen]; omega) (by decide)), ?_⟩
            try rw [nI_clamp (by omega)]
            iterate 6 refine hS _ _ _ _ ?_
            refine ⟨(by first | assumption | exact vp_in_nI (by simp only [alen]; omega) (by decide)), ?_⟩
            try rw [nI_clamp (by omega)]
            iterate 3 refine hS _ _ _ _ ?_
            rw [ey]
            refine ⟨(by first | assumption | exact vp_in_nI (by simp only [alen]; omega) (by decide)), ?_⟩
            try rw [nI_clamp (by omega)]
            refine hS _ _ _ _ ?_
            refine And.intro (fun h91 => ?_) (fun h91 => ?_)
            · rw [ew, ez] at h91
              iterate 4 refine hS _ _ _ _ ?_
              exact ih 0 (bI_n (fun z => h91 (z.2 k (by omega)))).symm
            · rw [ew, ez] at h91
              iterate 5 refine hS _ _ _ _ ?_
              refine ih 1 (bI_p ⟨hy.1, fun q hq => ?_⟩).symm
              by_cases z : q = k
              · subst z; exact h91
              · exact hy.2 q (by omega)
    iterate 3 refine hS _ _ _ _ ?_
    refine And.intro (fun h14 => ?_) (fun h14 => ?_)
    · exact absurd (show nI 3 ≤ nI w from h14) (nI_ge hw (by omega))
    · iterate 6 refine hS _ _ _ _ ?_
      rw [← nI_succ]
      refine ⟨(by first | assumption | exact vp_in_nI (by simp only [alen]; omega) (by decide)), ?_⟩
      try rw [nI_clamp (by omega)]
      iterate 4 refine hS _ _ _ _ ?_
      refine ⟨(by first | assumption | exact vp_in_nI (by simp only [alen]; omega) (by decide)), ?_⟩
      try rw [nI_clamp (by omega)]
      iterate 9 refine hS _ _ _ _ ?_
      refine And.intro (fun h43 => ?_) (fun h43 => ?_)
      · rw [hd1, es] at h43
        iterate 4 refine hS _ _ _ _ ?_
        rw [hd1]
        exact lp 0 (bI_n (fun z => h43 (congrArg nI z.1.symm))).symm
      · rw [hd1, es] at h43
        iterate 5 refine hS _ _ _ _ ?_
        rw [hd1]
        exact lp 1 (bI_p ⟨((nI_eq (by omega) (by omega)).mp h43).symm, fun q hq => absurd hq (Nat.not_lt_zero _)⟩).symm
  iterate 4 refine hS _ _ _ _ ?_
  refine And.intro (fun h5 => ?_) (fun h5 => ?_)
  · rw [e13, r1] at h5
    iterate 2 refine hS _ _ _ _ ?_
    refine one h5 0 (by decide) (fun z => iteC_t z) (fun n0 => ?_) _ _ _
    refine one h5 1 (by decide) (fun z => (iteC_f n0).trans (iteC_t z)) (fun n1 => ?_)
    refine one h5 2 (by decide) (fun z => (iteC_f n0).trans ((iteC_f n1).trans (iteC_t z))) (fun n2 => out (nowd n0 n1 n2))
  · rw [e13, r1] at h5
    iterate 2 refine hS _ _ _ _ ?_
    refine ⟨rfl, ?_⟩
    exact k0 (nowd (fun z => h5 z.1) (fun z => h5 z.1) (fun z => h5 z.1))
end W53
