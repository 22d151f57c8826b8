-- 81.pure52: the reference reads a text as the rules do
def VoK (V : List Nat) (r : Nat) : Prop := ∀ v, v ∈ V → 1 ≤ v ∧ v < 10 ∧ r ≤ rkN v
def NJo (l : Nat) (T : TK) (t : Bool) : Prop := ∀ k, SG T k → rkN k ≤ l ∨ (rkN k = 3 ∧ t = true)
def XEo (l : Nat) (te te' : Nat → Bool) (par : Nat) : Prop := (∀ i, i < par → te' i = te i) ∧ (3 ≤ l → te' par = te par)
def RMo (S : CF) (Q : PQ) (M0 : Mem) (n : Nat) (f : FA) : PZ := fun j op ng T b T1 ps => TO n f T → op ≤ 8 →
  (j ≤ 5 → ∀ W C te, EnT (j + 1) W → noF W = ng → (j ≤ 2 → te op = false) → (b = true → ∀ V C' te', VoK V (j + 1) → C' ++ ngL V = C ++ ps → XEo j te te' op → NJo j T1 (te' op) → RLo S M0 n f 0 T1 (V ++ W) C' op te') → (b = false → RFa Q M0 n f T1) → RLo S M0 n f 1 T W C op te) ∧
  (j = 11 → ∀ W C te, noF W = ng → (b = true → RLo S M0 n f 0 T1 (seF 6 W (C ++ ps)).1 (seF 6 W (C ++ ps)).2 op te) → (b = false → RFa Q M0 n f T1) → RLo S M0 n f 1 T W C op te) ∧
  (∀ l, j = 6 + l → l < 5 → ∀ W C te V C', EnT (l + 1) W → noF W = ng → (l = 2 → te op = false) → VoK V (l + 1) → C' ++ ngL V = C → NJo (l + 1) T (te op) → (b = true → ∀ V2 C2 te2, VoK V2 (l + 1) → C2 ++ ngL V2 = C ++ ps → XEo l te te2 op → NJo l T1 (te2 op) → RLo S M0 n f 0 T1 (V2 ++ W) C2 op te2) → (b = false → RFa Q M0 n f T1) → RLo S M0 n f 0 T (V ++ W) C' op te)
theorem rkN_1 : ∀ k, k < 10 → 1 ≤ rkN k ∧ (1 ≤ k → rkN k ≤ 5) := by decide
theorem VoK.seF {V W : List Nat} {r : Nat} {C C' : List Int32} (h : VoK V r) (e : C' ++ ngL V = C) (hE : EnT r W) : seF r (V ++ W) C' = (W, C) := by
  rw [seF_app V W C' (fun v hv => ⟨by have := h v hv; omega, (h v hv).2.2⟩), e]
  exact seF_ent hE
theorem VoK.no {V W : List Nat} {r : Nat} (h : VoK V r) : noF (V ++ W) = noF W := noF_app (fun v hv => (h v hv).2.1)
theorem noF_k {k : Nat} {W : List Nat} (h : k < 10) : noF (k :: W) = noF W := noF_app (V := [k]) (fun v hv => by rw [List.mem_singleton.mp hv]; exact h)
theorem VoK.push {V : List Nat} {l k : Nat} (h : VoK V (l + 1 + 1)) (h1 : 1 ≤ k) (h2 : k < 10) (hr : rkN k = l + 1) : VoK (V ++ [k]) (l + 1) := by
  intro v hv
  rcases List.mem_append.mp hv with z | z
  · have := h v z; exact ⟨this.1, this.2.1, by omega⟩
  · rw [List.mem_singleton.mp z]; exact ⟨h1, h2, by omega⟩
theorem ngL_push {V : List Nat} {k : Nat} {C C' ps : List Int32} (e : C' ++ ngL V = C ++ ps) : C' ++ ngL (V ++ [k]) = C ++ (ps ++ [- nI k]) := by
  unfold ngL at *
  rw [List.map_append, ← List.append_assoc, e, List.append_assoc]
  rfl
section W52
variable {d n ky : Nat} {M0 : Mem} {Q : PQ} {S : CF} {f : FA}
theorem dv_r (hS : Clo (Td PR d) (some .boolean) T_X10_takesE Q S) (hd : 8 ≤ d) (hn : n ≤ 96) (hk : ky < 3) (ek : M0 30 0 0 16 = nI ky) {j op ng : Nat} {T T1 : TK} {b : Bool} {ps : List Int32} (h : Dv f n ky j op ng T b T1 ps) : RMo S Q M0 n f j op ng T b T1 ps := by
  refine dv_ind (RMo S Q M0 n f) ?_ ?_ ?_ ?_ ?_ ?_ ?_ ?_ ?_ ?_ ?_ ?_ h
  · intro op ng T h3 hT ho
    exact ⟨fun z => absurd z (by omega), fun _ W C te hng k1 k0 => rl_part hS hd hn hk ek hT _ (Or.inl ⟨h3, rfl⟩) (k1 rfl), fun l z y => absurd z (by omega)⟩
  · intro op ng T h2 hnm hT ho
    exact ⟨fun z => absurd z (by omega), fun _ W C te hng k1 k0 => rl_part hS hd hn hk ek hT _ (Or.inr ⟨h2, hnm, rfl⟩) (k1 rfl), fun l z y => absurd z (by omega)⟩
  · intro op ng T h3 h2 hn1 hn2 hT ho
    exact ⟨fun z => absurd z (by omega), fun _ W C te hng k1 k0 => rl_bad hS hd hn ho hk ek hT h3 h2 (by rw [hng]; exact hn1) hn2 (k0 rfl), fun l z y => absurd z (by omega)⟩
  · intro op ng T b T1 ps h1 hv hg8 hdv ih hT ho
    obtain ⟨-, ih2, -⟩ := ih hT.nt.1 ho
    refine ⟨fun z => absurd z (by omega), fun _ W C te hng k1 k0 => rl_not hS hd hn ho hT h1 hv (by omega) (ih2 rfl (10 :: W) C te ?_ (fun hb => ?_) k0), fun l z y => absurd z (by omega)⟩
    · unfold noF at *
      rw [List.countP_cons, hng]
      rfl
    · have q := k1 hb
      rw [← List.append_assoc] at q
      rw [seF_c, if_pos (by decide)]
      exact q
  · intro op ng T T1 ps h1 hv ho8 c1 c2 hdv ih hT ho
    obtain ⟨ih2, -, -⟩ := ih hT.nt.1 (by omega)
    obtain ⟨o1, o2, o3⟩ := dv_pf hk hdv hT.nt.1
    refine ⟨fun z => absurd z (by omega), fun _ W C te hng k1 k0 => rl_open hS hd hn hT h1 hv ho8 (ih2 (by omega) (11 :: W) C (updB te (op + 1) false) (fun w W' e z => ?_) ?_ (fun _ => updB_at) (fun _ V C' te' v1 v2 v3 v4 => ?_) (fun z => absurd z (by decide))), fun l z y => absurd z (by omega)⟩
    · injection e with e1 e2; exact z.1 e1.symm
    · unfold noF at *
      rw [List.countP_cons, hng]
      rfl
    · have hs : seF 0 (V ++ 11 :: W) C' = (11 :: W, C ++ ps) := by
        rw [seF_app V _ C' (fun v hv => ⟨by have := v1 v hv; omega, Nat.zero_le _⟩), v2, seF_c, if_neg (fun z => z.1 rfl)]
      refine rl_close (W0 := W) hS hd hn ho8 o1 c1 c2 (by rw [hs]) ?_
      rw [hs]
      exact RLo.cg (fun i hi => (v3.1 i (by omega)).trans (updB_ne (by omega))) (k1 rfl)
  · intro op ng T b T1 ps h1 hv ho8 c1 hdv ih hT ho
    obtain ⟨ih2, -, -⟩ := ih hT.nt.1 (by omega)
    obtain ⟨o1, o2, o3⟩ := dv_pf hk hdv hT.nt.1
    refine ⟨fun z => absurd z (by omega), fun _ W C te hng k1 k0 => rl_open hS hd hn hT h1 hv ho8 (ih2 (by omega) (11 :: W) C (updB te (op + 1) false) (fun w W' e z => ?_) ?_ (fun _ => updB_at) (fun hb V C' te' v1 v2 v3 v4 => ?_) (fun _ => k0 rfl)), fun l z y => absurd z (by omega)⟩
    · injection e with e1 e2; exact z.1 e1.symm
    · unfold noF at *
      rw [List.countP_cons, hng]
      rfl
    · by_cases hz : T1.2.2.1 = 0
      · exact rl_end hS hd hn (by omega) o1 hz (fun z => absurd z (by omega)) (fun _ => k0 rfl)
      · refine rl_stop hS hd (by omega) o1 hz (fun z => c1 hb ⟨z.1, z.2.1⟩) (fun k hk => ?_) (k0 rfl)
        rcases v4 k hk with z | z
        · have := (rkN_1 k hk.2.2.1).1; omega
        · exact z
  · intro op ng T b T1 ps hdv ih hT ho
    obtain ⟨-, ih2, -⟩ := ih hT ho
    refine ⟨fun _ W C te hE hng ht k1 k0 => ih2 rfl W C te hng (fun hb => ?_) k0, fun z => absurd z (by omega), fun l z y => absurd z (by omega)⟩
    rw [seF_ent hE]
    exact k1 hb [] (C ++ ps) te (fun v hv => absurd hv (List.not_mem_nil)) (List.append_nil _) ⟨fun _ _ => rfl, fun _ => rfl⟩ (fun k hk => Or.inl ((rkN_1 k hk.2.2.1).2 hk.2.1))
  · intro l op ng T T1 ps b T2 qs hl hdv hdv2 ih ih2 hT ho
    obtain ⟨ihA, -, -⟩ := ih hT ho
    obtain ⟨o1, o2, o3⟩ := dv_pf hk hdv hT
    obtain ⟨-, -, ihB⟩ := ih2 o1 ho
    refine ⟨fun _ W C te hE hng ht k1 k0 => ihA (by omega) W C te (hE.mono (by omega)) hng (fun z => ht (by omega)) (fun _ V C' te' v1 v2 v3 v4 => ?_) (fun z => absurd z (by decide)), fun z => absurd z (by omega), fun l' z y => absurd z (by omega)⟩
    refine ihB l rfl hl W (C ++ ps) te' V C' hE hng (fun z => (v3.2 (by omega)).trans (ht (by omega))) (fun v hv => ⟨(v1 v hv).1, (v1 v hv).2.1, by have := (v1 v hv).2.2; omega⟩) v2 v4 (fun hb V2 C2 te2 w1 w2 w3 w4 => ?_) k0
    rw [List.append_assoc] at w2
    exact k1 hb V2 C2 te2 w1 w2 ⟨fun i hi => (w3.1 i hi).trans (v3.1 i hi), fun z => (w3.2 z).trans (v3.2 (by omega))⟩ w4
  · intro l op ng T T1 ps hl hdv ih hT ho
    obtain ⟨ihA, -, -⟩ := ih hT ho
    exact ⟨fun _ W C te hE hng ht k1 k0 => ihA (by omega) W C te (hE.mono (by omega)) hng (fun z => ht (by omega)) (fun z => absurd z (by decide)) k0, fun z => absurd z (by omega), fun l' z y => absurd z (by omega)⟩
  · intro l op ng T hl hno hT ho
    refine ⟨fun z => absurd z (by omega), fun z => absurd z (by omega), fun l' hl1 hl2 W C te V C' hE hng ht v1 v2 v4 k1 k0 => ?_⟩
    obtain rfl : l' = l := by omega
    refine k1 rfl V C' te v1 (by rw [v2, List.append_nil]) ⟨fun _ _ => rfl, fun _ => rfl⟩ (fun k hk => ?_)
    have := hno k hk
    rcases v4 k hk with z | z
    · left; omega
    · exact Or.inr z
  · intro l op ng T k b T1 ps hl hs hr hlb hdv ih hT ho
    obtain ⟨ihA, -, -⟩ := ih hT.nt.1 ho
    refine ⟨fun z => absurd z (by omega), fun z => absurd z (by omega), fun l' hl1 hl2 W C te V C' hE hng ht v1 v2 v4 k1 k0 => ?_⟩
    obtain rfl : l' = l := by omega
    have hsf : seF (rkN k) (V ++ W) C' = (W, C) := by rw [hr]; exact v1.seF v2 hE
    refine rl_sign hS hd hn ho hT hs (fun z => ?_) (by rw [hsf, v1.no]; exact noF_k hs.2.2.1) ?_
    · rw [ht (by omega)] at z; exact absurd z.2 (by decide)
    · rw [hsf]
      refine ihA (by omega) (k :: W) C _ (fun w W' e z => ?_) ((noF_k hs.2.2.1).trans hng) (fun z => ?_) (fun hb V3 C3 te3 w1 w2 w3 w4 => ?_) k0
      · injection e with e1 e2
        rw [← e1] at z
        omega
      · rw [updB_at]
        unfold tstB
        rw [decide_eq_false (by omega), decide_eq_false (by omega)]
        rfl
      · have hl2 : l' = 2 := hlb.resolve_right (by rw [hb]; decide)
        have q := k1 hb (V3 ++ [k]) C3 te3 (w1.push hs.2.1 hs.2.2.1 hr) (ngL_push w2) ⟨fun i hi => (w3.1 i hi).trans (updB_ne (by omega)), fun z => absurd z (by omega)⟩ (fun k' hk' => ?_)
        · rw [List.append_assoc] at q
          exact q
        · rcases w4 k' hk' with z | z
          · by_cases y : rkN k' = 3
            · refine Or.inr ⟨y, ?_⟩
              rw [w3.2 (by omega), updB_at]
              unfold tstB
              rw [decide_eq_true (by omega)]
              rfl
            · left; omega
          · exact Or.inr z
  · intro l op ng T k T1 ps b T2 qs hl hl2 hs hr hdv hdv2 ih ih2 hT ho
    obtain ⟨ihA, -, -⟩ := ih hT.nt.1 ho
    obtain ⟨o1, o2, o3⟩ := dv_pf hk hdv hT.nt.1
    obtain ⟨-, -, ihB⟩ := ih2 o1 ho
    refine ⟨fun z => absurd z (by omega), fun z => absurd z (by omega), fun l' hl1 hl2' W C te V C' hE hng ht v1 v2 v4 k1 k0 => ?_⟩
    obtain rfl : l' = l := by omega
    have hsf : seF (rkN k) (V ++ W) C' = (W, C) := by rw [hr]; exact v1.seF v2 hE
    refine rl_sign hS hd hn ho hT hs (fun z => by omega) (by rw [hsf, v1.no]; exact noF_k hs.2.2.1) ?_
    rw [hsf]
    refine ihA (by omega) (k :: W) C _ (fun w W' e z => ?_) ((noF_k hs.2.2.1).trans hng) (fun z => ?_) (fun _ V3 C3 te3 w1 w2 w3 w4 => ?_) (fun z => absurd z (by decide))
    · injection e with e1 e2
      rw [← e1] at z
      omega
    · rw [updB_at]
      unfold tstB
      rw [decide_eq_false (by omega), decide_eq_false (by omega)]
      rfl
    · have q := ihB l' rfl hl W (C ++ (ps ++ [- nI k])) te3 (V3 ++ [k]) C3 hE hng (fun z => absurd z hl2) (w1.push hs.2.1 hs.2.2.1 hr) (ngL_push w2) w4 (fun hb V2 C2 te2 x1 x2 x3 x4 => ?_) k0
      · rw [List.append_assoc] at q
        exact q
      · rw [List.append_assoc] at x2
        refine k1 hb V2 C2 te2 x1 x2 ⟨fun i hi => (x3.1 i hi).trans ((w3.1 i hi).trans (updB_ne (by omega))), fun z => ?_⟩ x4
        rw [x3.2 z, w3.2 (by omega), updB_at]
        unfold tstB
        rw [decide_eq_false (by omega), decide_eq_true (by omega)]
        rfl
end W52
