-- 75.pure46: how a text is read, rule by rule
abbrev PZ := Nat → Nat → Nat → TK → Bool → TK → List Int32 → Prop
def R_num (f : FA) (n ky : Nat) (P : PZ) : Prop := ∀ (op : Nat) (ng : Nat) (T : TK), (T.2.2.1 = 3) → P 11 op ng T true (nt f n T) [T.2.2.2]
def R_nm (f : FA) (n ky : Nat) (P : PZ) : Prop := ∀ (op : Nat) (ng : Nat) (T : TK), (T.2.2.1 = 2) → (¬ nmF T ky < 0) → P 11 op ng T true (nt f n T) [10000 + nmF T ky]
def R_bad (f : FA) (n ky : Nat) (P : PZ) : Prop := ∀ (op : Nat) (ng : Nat) (T : TK), (¬ T.2.2.1 = 3) → (T.2.2.1 = 2 → nmF T ky < 0) → (¬ (T.2.2.1 = 1 ∧ T.2.2.2 = 33 ∧ ng < 8)) → (¬ (T.2.2.1 = 1 ∧ T.2.2.2 = 40 ∧ op < 8)) → P 11 op ng T false T []
def R_not (f : FA) (n ky : Nat) (P : PZ) : Prop := ∀ (op : Nat) (ng : Nat) (T : TK) (b : Bool) (T1 : TK) (ps : List Int32), (T.2.2.1 = 1) → (T.2.2.2 = 33) → (ng < 8) → P 11 op (ng + 1) (nt f n T) b T1 ps → P 11 op ng T b T1 (ps ++ [-10])
def R_br (f : FA) (n ky : Nat) (P : PZ) : Prop := ∀ (op : Nat) (ng : Nat) (T : TK) (T1 : TK) (ps : List Int32), (T.2.2.1 = 1) → (T.2.2.2 = 40) → (op < 8) → (T1.2.2.1 = 1) → (T1.2.2.2 = 41) → P 0 (op + 1) ng (nt f n T) true T1 ps → P 11 op ng T true (nt f n T1) ps
def R_brF (f : FA) (n ky : Nat) (P : PZ) : Prop := ∀ (op : Nat) (ng : Nat) (T : TK) (b : Bool) (T1 : TK) (ps : List Int32), (T.2.2.1 = 1) → (T.2.2.2 = 40) → (op < 8) → (b = true → ¬ (T1.2.2.1 = 1 ∧ T1.2.2.2 = 41)) → P 0 (op + 1) ng (nt f n T) b T1 ps → P 11 op ng T false T1 ps
def R_5 (f : FA) (n ky : Nat) (P : PZ) : Prop := ∀ (op : Nat) (ng : Nat) (T : TK) (b : Bool) (T1 : TK) (ps : List Int32), P 11 op ng T b T1 ps → P 5 op ng T b T1 ps
def R_lv (f : FA) (n ky : Nat) (P : PZ) : Prop := ∀ (l : Nat) (op : Nat) (ng : Nat) (T : TK) (T1 : TK) (ps : List Int32) (b : Bool) (T2 : TK) (qs : List Int32), (l < 5) → P (l + 1) op ng T true T1 ps → P (6 + l) op ng T1 b T2 qs → P l op ng T b T2 (ps ++ qs)
def R_lvF (f : FA) (n ky : Nat) (P : PZ) : Prop := ∀ (l : Nat) (op : Nat) (ng : Nat) (T : TK) (T1 : TK) (ps : List Int32), (l < 5) → P (l + 1) op ng T false T1 ps → P l op ng T false T1 ps
def R_st (f : FA) (n ky : Nat) (P : PZ) : Prop := ∀ (l : Nat) (op : Nat) (ng : Nat) (T : TK), (l < 5) → (∀ k, SG T k → ¬ rkN k = l + 1) → P (6 + l) op ng T true T []
def R_g1 (f : FA) (n ky : Nat) (P : PZ) : Prop := ∀ (l : Nat) (op : Nat) (ng : Nat) (T : TK) (k : Nat) (b : Bool) (T1 : TK) (ps : List Int32), (l < 5) → (SG T k) → (rkN k = l + 1) → (l = 2 ∨ b = false) → P (l + 1) op ng (nt f n T) b T1 ps → P (6 + l) op ng T b T1 (ps ++ [- nI k])
def R_g (f : FA) (n ky : Nat) (P : PZ) : Prop := ∀ (l : Nat) (op : Nat) (ng : Nat) (T : TK) (k : Nat) (T1 : TK) (ps : List Int32) (b : Bool) (T2 : TK) (qs : List Int32), (l < 5) → (¬ l = 2) → (SG T k) → (rkN k = l + 1) → P (l + 1) op ng (nt f n T) true T1 ps → P (6 + l) op ng T1 b T2 qs → P (6 + l) op ng T b T2 (ps ++ [- nI k] ++ qs)
def GR (f : FA) (n ky : Nat) (P : PZ) : Prop := R_num f n ky P ∧ R_nm f n ky P ∧ R_bad f n ky P ∧ R_not f n ky P ∧ R_br f n ky P ∧ R_brF f n ky P ∧ R_5 f n ky P ∧ R_lv f n ky P ∧ R_lvF f n ky P ∧ R_st f n ky P ∧ R_g1 f n ky P ∧ R_g f n ky P
def Dv (f : FA) (n ky : Nat) : PZ := fun j op ng T b T1 ps => ∀ P : PZ, GR f n ky P → P j op ng T b T1 ps
section W46
variable {f : FA} {n ky : Nat}
theorem dv_num : R_num f n ky (Dv f n ky) := fun op ng T c0 P h => h.1 _ _ _ c0
theorem dv_nm : R_nm f n ky (Dv f n ky) := fun op ng T c0 c1 P h => h.2.1 _ _ _ c0 c1
theorem dv_bad : R_bad f n ky (Dv f n ky) := fun op ng T c0 c1 c2 c3 P h => h.2.2.1 _ _ _ c0 c1 c2 c3
theorem dv_not : R_not f n ky (Dv f n ky) := fun op ng T b T1 ps c0 c1 c2 p0 P h => h.2.2.2.1 _ _ _ _ _ _ c0 c1 c2 (p0 P h)
theorem dv_br : R_br f n ky (Dv f n ky) := fun op ng T T1 ps c0 c1 c2 c3 c4 p0 P h => h.2.2.2.2.1 _ _ _ _ _ c0 c1 c2 c3 c4 (p0 P h)
theorem dv_brF : R_brF f n ky (Dv f n ky) := fun op ng T b T1 ps c0 c1 c2 c3 p0 P h => h.2.2.2.2.2.1 _ _ _ _ _ _ c0 c1 c2 c3 (p0 P h)
theorem dv_5 : R_5 f n ky (Dv f n ky) := fun op ng T b T1 ps p0 P h => h.2.2.2.2.2.2.1 _ _ _ _ _ _ (p0 P h)
theorem dv_lv : R_lv f n ky (Dv f n ky) := fun l op ng T T1 ps b T2 qs c0 p0 p1 P h => h.2.2.2.2.2.2.2.1 _ _ _ _ _ _ _ _ _ c0 (p0 P h) (p1 P h)
theorem dv_lvF : R_lvF f n ky (Dv f n ky) := fun l op ng T T1 ps c0 p0 P h => h.2.2.2.2.2.2.2.2.1 _ _ _ _ _ _ c0 (p0 P h)
theorem dv_st : R_st f n ky (Dv f n ky) := fun l op ng T c0 c1 P h => h.2.2.2.2.2.2.2.2.2.1 _ _ _ _ c0 c1
theorem dv_g1 : R_g1 f n ky (Dv f n ky) := fun l op ng T k b T1 ps c0 c1 c2 c3 p0 P h => h.2.2.2.2.2.2.2.2.2.2.1 _ _ _ _ _ _ _ _ c0 c1 c2 c3 (p0 P h)
theorem dv_g : R_g f n ky (Dv f n ky) := fun l op ng T k T1 ps b T2 qs c0 c1 c2 c3 p0 p1 P h => h.2.2.2.2.2.2.2.2.2.2.2 _ _ _ _ _ _ _ _ _ _ c0 c1 c2 c3 (p0 P h) (p1 P h)
/-- by the rules, with what was shown before -/
theorem dv_ind (P : PZ) (h_num : ∀ (op : Nat) (ng : Nat) (T : TK), (T.2.2.1 = 3) → P 11 op ng T true (nt f n T) [T.2.2.2]) (h_nm : ∀ (op : Nat) (ng : Nat) (T : TK), (T.2.2.1 = 2) → (¬ nmF T ky < 0) → P 11 op ng T true (nt f n T) [10000 + nmF T ky]) (h_bad : ∀ (op : Nat) (ng : Nat) (T : TK), (¬ T.2.2.1 = 3) → (T.2.2.1 = 2 → nmF T ky < 0) → (¬ (T.2.2.1 = 1 ∧ T.2.2.2 = 33 ∧ ng < 8)) → (¬ (T.2.2.1 = 1 ∧ T.2.2.2 = 40 ∧ op < 8)) → P 11 op ng T false T []) (h_not : ∀ (op : Nat) (ng : Nat) (T : TK) (b : Bool) (T1 : TK) (ps : List Int32), (T.2.2.1 = 1) → (T.2.2.2 = 33) → (ng < 8) → Dv f n ky 11 op (ng + 1) (nt f n T) b T1 ps → P 11 op (ng + 1) (nt f n T) b T1 ps → P 11 op ng T b T1 (ps ++ [-10])) (h_br : ∀ (op : Nat) (ng : Nat) (T : TK) (T1 : TK) (ps : List Int32), (T.2.2.1 = 1) → (T.2.2.2 = 40) → (op < 8) → (T1.2.2.1 = 1) → (T1.2.2.2 = 41) → Dv f n ky 0 (op + 1) ng (nt f n T) true T1 ps → P 0 (op + 1) ng (nt f n T) true T1 ps → P 11 op ng T true (nt f n T1) ps) (h_brF : ∀ (op : Nat) (ng : Nat) (T : TK) (b : Bool) (T1 : TK) (ps : List Int32), (T.2.2.1 = 1) → (T.2.2.2 = 40) → (op < 8) → (b = true → ¬ (T1.2.2.1 = 1 ∧ T1.2.2.2 = 41)) → Dv f n ky 0 (op + 1) ng (nt f n T) b T1 ps → P 0 (op + 1) ng (nt f n T) b T1 ps → P 11 op ng T false T1 ps) (h_5 : ∀ (op : Nat) (ng : Nat) (T : TK) (b : Bool) (T1 : TK) (ps : List Int32), Dv f n ky 11 op ng T b T1 ps → P 11 op ng T b T1 ps → P 5 op ng T b T1 ps) (h_lv : ∀ (l : Nat) (op : Nat) (ng : Nat) (T : TK) (T1 : TK) (ps : List Int32) (b : Bool) (T2 : TK) (qs : List Int32), (l < 5) → Dv f n ky (l + 1) op ng T true T1 ps → Dv f n ky (6 + l) op ng T1 b T2 qs → P (l + 1) op ng T true T1 ps → P (6 + l) op ng T1 b T2 qs → P l op ng T b T2 (ps ++ qs)) (h_lvF : ∀ (l : Nat) (op : Nat) (ng : Nat) (T : TK) (T1 : TK) (ps : List Int32), (l < 5) → Dv f n ky (l + 1) op ng T false T1 ps → P (l + 1) op ng T false T1 ps → P l op ng T false T1 ps) (h_st : ∀ (l : Nat) (op : Nat) (ng : Nat) (T : TK), (l < 5) → (∀ k, SG T k → ¬ rkN k = l + 1) → P (6 + l) op ng T true T []) (h_g1 : ∀ (l : Nat) (op : Nat) (ng : Nat) (T : TK) (k : Nat) (b : Bool) (T1 : TK) (ps : List Int32), (l < 5) → (SG T k) → (rkN k = l + 1) → (l = 2 ∨ b = false) → Dv f n ky (l + 1) op ng (nt f n T) b T1 ps → P (l + 1) op ng (nt f n T) b T1 ps → P (6 + l) op ng T b T1 (ps ++ [- nI k])) (h_g : ∀ (l : Nat) (op : Nat) (ng : Nat) (T : TK) (k : Nat) (T1 : TK) (ps : List Int32) (b : Bool) (T2 : TK) (qs : List Int32), (l < 5) → (¬ l = 2) → (SG T k) → (rkN k = l + 1) → Dv f n ky (l + 1) op ng (nt f n T) true T1 ps → Dv f n ky (6 + l) op ng T1 b T2 qs → P (l + 1) op ng (nt f n T) true T1 ps → P (6 + l) op ng T1 b T2 qs → P (6 + l) op ng T b T2 (ps ++ [- nI k] ++ qs)) {j op ng : Nat} {T T1 : TK} {b : Bool} {ps : List Int32} (h : Dv f n ky j op ng T b T1 ps) : P j op ng T b T1 ps := by
  refine (h (fun j op ng T b T1 ps => Dv f n ky j op ng T b T1 ps ∧ P j op ng T b T1 ps) ?_).2
  exact ⟨fun _ _ _ c0 => ⟨dv_num _ _ _ c0, h_num _ _ _ c0⟩,
    fun _ _ _ c0 c1 => ⟨dv_nm _ _ _ c0 c1, h_nm _ _ _ c0 c1⟩,
    fun _ _ _ c0 c1 c2 c3 => ⟨dv_bad _ _ _ c0 c1 c2 c3, h_bad _ _ _ c0 c1 c2 c3⟩,
    fun _ _ _ _ _ _ c0 c1 c2 p0 => ⟨dv_not _ _ _ _ _ _ c0 c1 c2 p0.1, h_not _ _ _ _ _ _ c0 c1 c2 p0.1 p0.2⟩,
    fun _ _ _ _ _ c0 c1 c2 c3 c4 p0 => ⟨dv_br _ _ _ _ _ c0 c1 c2 c3 c4 p0.1, h_br _ _ _ _ _ c0 c1 c2 c3 c4 p0.1 p0.2⟩,
    fun _ _ _ _ _ _ c0 c1 c2 c3 p0 => ⟨dv_brF _ _ _ _ _ _ c0 c1 c2 c3 p0.1, h_brF _ _ _ _ _ _ c0 c1 c2 c3 p0.1 p0.2⟩,
    fun _ _ _ _ _ _ p0 => ⟨dv_5 _ _ _ _ _ _ p0.1, h_5 _ _ _ _ _ _ p0.1 p0.2⟩,
    fun _ _ _ _ _ _ _ _ _ c0 p0 p1 => ⟨dv_lv _ _ _ _ _ _ _ _ _ c0 p0.1 p1.1, h_lv _ _ _ _ _ _ _ _ _ c0 p0.1 p1.1 p0.2 p1.2⟩,
    fun _ _ _ _ _ _ c0 p0 => ⟨dv_lvF _ _ _ _ _ _ c0 p0.1, h_lvF _ _ _ _ _ _ c0 p0.1 p0.2⟩,
    fun _ _ _ _ c0 c1 => ⟨dv_st _ _ _ _ c0 c1, h_st _ _ _ _ c0 c1⟩,
    fun _ _ _ _ _ _ _ _ c0 c1 c2 c3 p0 => ⟨dv_g1 _ _ _ _ _ _ _ _ c0 c1 c2 c3 p0.1, h_g1 _ _ _ _ _ _ _ _ c0 c1 c2 c3 p0.1 p0.2⟩,
    fun _ _ _ _ _ _ _ _ _ _ c0 c1 c2 c3 p0 p1 => ⟨dv_g _ _ _ _ _ _ _ _ _ _ c0 c1 c2 c3 p0.1 p1.1, h_g _ _ _ _ _ _ _ _ _ _ c0 c1 c2 c3 p0.1 p1.1 p0.2 p1.2⟩⟩
/-- a text may be read one way or the other, but it is read -/
def PFm (f : FA) (n ky : Nat) : PZ := fun j _ _ T b T1 ps => TO n f T → TO n f T1 ∧ T.1 ≤ T1.1 ∧ (b = true → ps.length + T.1 ≤ T1.1 ∧ (j ≤ 5 ∨ j = 11 → ∀ a, okR (if ky = 0 then 3 else 2) ps a (a + 1)) ∧ (6 ≤ j → j ≤ 10 → ∀ a, 1 ≤ a → okR (if ky = 0 then 3 else 2) ps a a))
theorem okR_1 {nm a : Nat} {c : Int32} (h : isBd (10000 + nm) c) : okR nm [c] a (a + 1) := Or.inl ⟨h, rfl⟩
theorem okR_n {nm a : Nat} (h : 1 ≤ a) : okR nm [-10] a a := Or.inr (Or.inl ⟨rfl, h, rfl⟩)
theorem okR_2 {nm a k : Nat} (h : 1 ≤ a) (h1 : 1 ≤ k) (h2 : k < 10) : okR nm [- nI k] (a + 1) a := Or.inr (Or.inr ⟨⟨k, h1, h2, rfl⟩, by omega, show a + 1 - 1 = a by omega⟩)
theorem dv_pf {j op ng : Nat} {T T1 : TK} {b : Bool} {ps : List Int32} (hk : ky < 3) (h : Dv f n ky j op ng T b T1 ps) : PFm f n ky j op ng T b T1 ps := by
  refine dv_ind (PFm f n ky) ?_ ?_ ?_ ?_ ?_ ?_ ?_ ?_ ?_ ?_ ?_ ?_ h
  · intro op ng T h3 hT
    obtain ⟨a, b⟩ := hT.nt
    have c := hT.lt (by omega)
    obtain ⟨v, hv, ev⟩ := hT.2 h3
    exact ⟨a, by omega, fun _ => ⟨by show 1 + T.1 ≤ _; omega, fun _ a => okR_1 ⟨v, by omega, ev⟩, fun _ z => absurd z (by omega)⟩⟩
  · intro op ng T h2 hn hT
    obtain ⟨a, b⟩ := hT.nt
    have c := hT.lt (by omega)
    obtain ⟨q, hq, eq, -⟩ := nmF_mem hk hn
    refine ⟨a, by omega, fun _ => ⟨by show 1 + T.1 ≤ _; omega, fun _ a => okR_1 ⟨10000 + q, by omega, ?_⟩, fun _ z => absurd z (by omega)⟩⟩
    rw [eq]
    exact nI_add 10000 q
  · intro op ng T _ _ _ _ hT
    exact ⟨hT, Nat.le_refl _, fun z => absurd z (by decide)⟩
  · intro op ng T b T1 ps h1 _ _ _ ih hT
    obtain ⟨a, b1⟩ := hT.nt
    have c := hT.lt (by omega)
    obtain ⟨i1, i2, i3⟩ := ih a
    refine ⟨i1, by omega, fun z => ?_⟩
    obtain ⟨j1, j2, -⟩ := i3 z
    exact ⟨by rw [List.length_append, List.length_singleton]; omega, fun _ a => okR_app _ _ _ _ _ (j2 (by omega) a) (okR_n (by omega)), fun _ z => absurd z (by omega)⟩
  · intro op ng T T1 ps h1 _ _ k1 _ _ ih hT
    obtain ⟨a, b1⟩ := hT.nt
    have c := hT.lt (by omega)
    obtain ⟨i1, i2, i3⟩ := ih a
    obtain ⟨j1, j2, -⟩ := i3 rfl
    obtain ⟨a', b'⟩ := i1.nt
    have c' := i1.lt (by omega)
    exact ⟨a', by omega, fun _ => ⟨by omega, fun _ => j2 (by omega), fun _ z => absurd z (by omega)⟩⟩
  · intro op ng T b T1 ps h1 _ _ _ _ ih hT
    obtain ⟨a, b1⟩ := hT.nt
    have c := hT.lt (by omega)
    obtain ⟨i1, i2, i3⟩ := ih a
    exact ⟨i1, by omega, fun z => absurd z (by decide)⟩
  · intro op ng T b T1 ps _ ih hT
    obtain ⟨i1, i2, i3⟩ := ih hT
    exact ⟨i1, i2, fun z => ⟨(i3 z).1, fun _ => (i3 z).2.1 (by omega), fun z => absurd z (by omega)⟩⟩
  · intro l op ng T T1 ps b T2 qs hl _ _ ih ih2 hT
    obtain ⟨i1, i2, i3⟩ := ih hT
    obtain ⟨j1, j2, -⟩ := i3 rfl
    obtain ⟨k1, k2, k3⟩ := ih2 i1
    refine ⟨k1, by omega, fun z => ?_⟩
    obtain ⟨m1, -, m2⟩ := k3 z
    exact ⟨by rw [List.length_append]; omega, fun _ a => okR_app _ _ _ _ _ (j2 (by omega) a) (m2 (by omega) (by omega) _ (by omega)), fun z => absurd z (by omega)⟩
  · intro l op ng T T1 ps _ _ ih hT
    obtain ⟨i1, i2, i3⟩ := ih hT
    exact ⟨i1, i2, fun z => absurd z (by decide)⟩
  · intro l op ng T hl _ hT
    exact ⟨hT, Nat.le_refl _, fun _ => ⟨by show 0 + T.1 ≤ _; omega, fun z => absurd z (by omega), fun _ _ a _ => rfl⟩⟩
  · intro l op ng T k b T1 ps hl hs _ _ _ ih hT
    obtain ⟨a, b1⟩ := hT.nt
    have c := hT.lt (by rw [hs.1]; decide)
    obtain ⟨i1, i2, i3⟩ := ih a
    refine ⟨i1, by omega, fun z => ?_⟩
    obtain ⟨j1, j2, -⟩ := i3 z
    exact ⟨by rw [List.length_append, List.length_singleton]; omega, fun z => absurd z (by omega), fun _ _ a ha => okR_app _ _ _ _ _ (j2 (by omega) a) (okR_2 ha hs.2.1 hs.2.2.1)⟩
  · intro l op ng T k T1 ps b T2 qs hl _ hs _ _ _ ih ih2 hT
    obtain ⟨a, b1⟩ := hT.nt
    have c := hT.lt (by rw [hs.1]; decide)
    obtain ⟨i1, i2, i3⟩ := ih a
    obtain ⟨j1, j2, -⟩ := i3 rfl
    obtain ⟨k1, k2, k3⟩ := ih2 i1
    refine ⟨k1, by omega, fun z => ?_⟩
    obtain ⟨m1, -, m2⟩ := k3 z
    exact ⟨by rw [List.length_append, List.length_append, List.length_singleton]; omega, fun z => absurd z (by omega), fun _ _ a ha => okR_app _ _ _ _ _ (okR_app _ _ _ _ _ (j2 (by omega) a) (okR_2 ha hs.2.1 hs.2.2.1)) (m2 (by omega) (by omega) a ha)⟩
theorem dv_all (hk : ky < 3) : ∀ N j op ng T, j < 12 → TO n f T → n - T.1 < N → ∃ b T1 ps, Dv f n ky j op ng T b T1 ps := by
  intro N
  induction N with
  | zero => intro j op ng T _ _ h; exact absurd h (Nat.not_lt_zero _)
  | succ N ih =>
    have p11 : ∀ op ng T, TO n f T → n - T.1 < N + 1 → ∃ b T1 ps, Dv f n ky 11 op ng T b T1 ps := by
      intro op ng T hT hN
      have sub : T.2.2.1 ≠ 0 → ∀ j op ng, j < 12 → ∃ b T1 ps, Dv f n ky j op ng (nt f n T) b T1 ps := fun h j op ng hj => ih j op ng _ hj hT.nt.1 (by have := hT.lt h; have := hT.nt.2; omega)
      by_cases h3 : T.2.2.1 = 3
      · exact ⟨_, _, _, dv_num op ng T h3⟩
      · by_cases h2 : T.2.2.1 = 2 ∧ ¬ nmF T ky < 0
        · exact ⟨_, _, _, dv_nm op ng T h2.1 h2.2⟩
        · by_cases hn : T.2.2.1 = 1 ∧ T.2.2.2 = 33 ∧ ng < 8
          · obtain ⟨b, T1, ps, q⟩ := sub (by omega) 11 op (ng + 1) (by decide)
            exact ⟨_, _, _, dv_not op ng T b T1 ps hn.1 hn.2.1 hn.2.2 q⟩
          · by_cases ho : T.2.2.1 = 1 ∧ T.2.2.2 = 40 ∧ op < 8
            · obtain ⟨b, T1, ps, q⟩ := sub (by omega) 0 (op + 1) ng (by decide)
              by_cases hc : b = true ∧ T1.2.2.1 = 1 ∧ T1.2.2.2 = 41
              · obtain ⟨rfl, c1, c2⟩ := hc
                exact ⟨_, _, _, dv_br op ng T T1 ps ho.1 ho.2.1 ho.2.2 c1 c2 q⟩
              · exact ⟨_, _, _, dv_brF op ng T b T1 ps ho.1 ho.2.1 ho.2.2 (fun z y => hc ⟨z, y⟩) q⟩
            · exact ⟨_, _, _, dv_bad op ng T h3 (fun z => Classical.byContradiction fun y => h2 ⟨z, y⟩) hn ho⟩
    have lp : ∀ l op ng T, l < 5 → TO n f T → n - T.1 < N + 1 → ∃ b T1 ps, Dv f n ky (6 + l) op ng T b T1 ps := by
      intro l op ng T hl hT hN
      rcases Classical.em (∃ k, SG T k ∧ rkN k = l + 1) with ⟨k, hs, hr⟩ | hno
      · have h1 : T.2.2.1 ≠ 0 := by rw [hs.1]; decide
        have hlt := hT.lt h1
        have hnt := hT.nt
        obtain ⟨b, T1, ps, q⟩ := ih (l + 1) op ng _ (by omega) hnt.1 (by omega)
        by_cases z : l = 2 ∨ b = false
        · exact ⟨_, _, _, dv_g1 l op ng T k b T1 ps hl hs hr z q⟩
        · cases b with
          | false => exact absurd (Or.inr rfl) z
          | true =>
            obtain ⟨o1, o2, -⟩ := dv_pf hk q hnt.1
            obtain ⟨b, T2, qs, q2⟩ := ih (6 + l) op ng T1 (by omega) o1 (by omega)
            exact ⟨_, _, _, dv_g l op ng T k T1 ps b T2 qs hl (fun y => z (Or.inl y)) hs hr q q2⟩
      · exact ⟨_, _, _, dv_st l op ng T hl (fun k hs hr => hno ⟨k, hs, hr⟩)⟩
    have lv : ∀ m l op ng T, l + m = 5 → TO n f T → n - T.1 < N + 1 → ∃ b T1 ps, Dv f n ky l op ng T b T1 ps := by
      intro m
      induction m with
      | zero =>
        intro l op ng T hl hT hN
        obtain rfl : l = 5 := by omega
        obtain ⟨b, T1, ps, q⟩ := p11 op ng T hT hN
        exact ⟨_, _, _, dv_5 op ng T b T1 ps q⟩
      | succ m im =>
        intro l op ng T hl hT hN
        obtain ⟨b, T1, ps, q⟩ := im (l + 1) op ng T (by omega) hT hN
        cases b with
        | false => exact ⟨_, _, _, dv_lvF l op ng T T1 ps (by omega) q⟩
        | true =>
          obtain ⟨o1, o2, -⟩ := dv_pf hk q hT
          obtain ⟨b, T2, qs, q2⟩ := lp l op ng T1 (by omega) o1 (by omega)
          exact ⟨_, _, _, dv_lv l op ng T T1 ps b T2 qs (by omega) q q2⟩
    intro j op ng T hj hT hN
    by_cases h5 : j ≤ 5
    · exact lv (5 - j) j op ng T (by omega) hT hN
    · by_cases h11 : j = 11
      · subst h11; exact p11 op ng T hT hN
      · obtain ⟨l, hl, rfl⟩ : ∃ l, l < 5 ∧ j = 6 + l := ⟨j - 6, by omega, by omega⟩
        exact lp l op ng T hl hT hN
end W46
